/-! what the methods come to -/
def wp_X12_does_0 (E : ZE) (l : Launch) (d b : Nat) (G0 : ZG) (Q : ZQ) (k : Nat) (q0 : Nat) (x1 : Int32) (x2 : Int32) (G : ZG) : Prop :=
  ((x1 = 0 →
    zob G q0 13 ∧
    zob G q0 13 ∧
    xcV E l mX12_sets d [.ref q0, .int x2, .int 2, .int (ziv G q0 1)] G k (fun X G9 => Q (.inr X) G9) (fun G1 k2 =>
    zob G1 q0 13 ∧
    xcI E l mX12_lacksOf d [.ref q0, .int x2] G1 k2 (fun X G9 => Q (.inr X) G9) (fun y3 G4 k5 =>
    ((¬ y3 = 0 →
      zW E l mX12_does d b G0 Q k5 54 [some (.ref q0), none, some (.int x2)] [.int 1, .int 0, .int x2, .ref q0] G4) ∧
    (¬ (¬ y3 = 0) →
      zW E l mX12_does d b G0 Q k5 54 [some (.ref q0), none, some (.int x2)] [.int 2, .int 0, .int x2, .ref q0] G4))))) ∧
  ((x1 = 1 →
    zob G q0 13 ∧
    xcV E l mX12_checks d [.ref q0, .int x2] G k (fun X G9 => Q (.inr X) G9) (fun G6 k7 =>
    Q (.inl none) G6)) ∧
  ((x1 = 2 →
    zob G q0 13 ∧
    xcV E l mX12_sets d [.ref q0, .int x2, .int 0, .int 5] G k (fun X G9 => Q (.inr X) G9) (fun G8 k9 =>
    Q (.inl none) G8)) ∧
  (¬ x1 = 0 → ¬ x1 = 1 → ¬ x1 = 2 →
    zob G q0 13 ∧
    xcV E l mX12_prints d [.ref q0, .int x2] G k (fun X G9 => Q (.inr X) G9) (fun G10 k11 =>
    Q (.inl none) G10)))))
theorem wpt_X12_does_0 {E : ZE} {l : Launch} {d b : Nat} {G0 : ZG} {Q : ZQ} {k : Nat} {q0 : Nat} {x1 : Int32} {x2 : Int32} {G : ZG} (h : wp_X12_does_0 E l d b G0 Q k q0 x1 x2 G) : zW E l mX12_does d b G0 Q k 0 [some (.ref q0), some (.int x1), some (.int x2)] [] G := by
  unfold wp_X12_does_0 at h
  refine z_iload_n (pc' := 1) dX12_does_0 rfl rfl ?_
  by_cases hc0 : x1 = 0
  · have h := h.1 hc0
    refine z_tableIn (off := 27) (pt := 28) dX12_does_1 (by rw [hc0]; decide) (by rw [hc0]; decide) (by rw [hc0]; decide) (by decide) ?_
    refine z_aload_n (pc' := 29) dX12_does_28 rfl rfl ?_
    refine z_iload_n (pc' := 30) dX12_does_29 rfl rfl ?_
    refine z_iconst (x := 2) (pc' := 31) dX12_does_30 (by decide) rfl ?_
    refine z_aload_n (pc' := 32) dX12_does_31 rfl rfl ?_
    obtain ⟨h1, h⟩ := h
    refine z_getI (ci := 13) (kf := 1) (pc' := 35) dX12_does_32 kX12_314 (Or.inl rfl) (by decide) (by decide) rfl rfl h1 ?_
    obtain ⟨h1, h⟩ := h
    obtain ⟨d1, b1, Qz, hm, hdd, hb, hkx, hk⟩ := h
    refine z_callV (Y := mX12_sets) (n := 3) (as := [.int x2, .int 2, .int (ziv G q0 1)]) (st := []) (pc' := 38) (ci := 13) (q := q0) hm dX12_does_35 kX12_425 vX12_sets rfl rfl (by decide) rfl h1 hdd hb (Nat.le_of_ble_eq_true rfl) (fun r G1 hz => ?_) hkx
    obtain ⟨rfl, h⟩ := hk r G1 hz
    refine z_aload_n (pc' := 39) dX12_does_38 rfl rfl ?_
    refine z_iload_n (pc' := 40) dX12_does_39 rfl rfl ?_
    refine z_iconst (x := 0) (pc' := 41) dX12_does_40 (by decide) rfl ?_
    refine z_aload_n (pc' := 42) dX12_does_41 rfl rfl ?_
    refine z_iload_n (pc' := 43) dX12_does_42 rfl rfl ?_
    obtain ⟨h1, h⟩ := h
    obtain ⟨d1, b1, Qz, hm, hdd, hb, hkx, hk⟩ := h
    refine z_callV (Y := mX12_lacksOf) (n := 1) (as := [.int x2]) (st := [.int 0, .int x2, .ref q0]) (pc' := 46) (ci := 13) (q := q0) hm dX12_does_43 kX12_437 vX12_lacksOf rfl rfl (by decide) rfl h1 hdd hb (Nat.le_of_ble_eq_true rfl) (fun r G4 hz => ?_) hkx
    obtain ⟨y3, rfl, h⟩ := hk r G4 hz
    refine z_if_ne (pt := 53) (pc' := 49) dX12_does_46 (by decide) rfl (fun hc => ?_) (fun hc => ?_)
    · have h := h.1 hc
      refine z_iconst (x := 1) (pc' := 54) dX12_does_53 (by decide) rfl ?_
      exact z_dr (ls' := [some (.ref q0), none, some (.int x2)]) ⟨rfl, rfl, trivial⟩ h
    · have h := h.2 hc
      refine z_iconst (x := 2) (pc' := 50) dX12_does_49 (by decide) rfl ?_
      refine z_goto (pc' := 54) dX12_does_50 (by decide) ?_
      exact z_dr (ls' := [some (.ref q0), none, some (.int x2)]) ⟨rfl, rfl, trivial⟩ h
  have h := h.2
  by_cases hc1 : x1 = 1
  · have h := h.1 hc1
    refine z_tableIn (off := 85) (pt := 86) dX12_does_1 (by rw [hc1]; decide) (by rw [hc1]; decide) (by rw [hc1]; decide) (by decide) ?_
    refine z_aload_n (pc' := 87) dX12_does_86 rfl rfl ?_
    refine z_iload_n (pc' := 88) dX12_does_87 rfl rfl ?_
    obtain ⟨h1, h⟩ := h
    obtain ⟨d1, b1, Qz, hm, hdd, hb, hkx, hk⟩ := h
    refine z_callV (Y := mX12_checks) (n := 1) (as := [.int x2]) (st := []) (pc' := 91) (ci := 13) (q := q0) hm dX12_does_88 kX12_440 vX12_checks rfl rfl (by decide) rfl h1 hdd hb (Nat.le_of_ble_eq_true rfl) (fun r G6 hz => ?_) hkx
    obtain ⟨rfl, h⟩ := hk r G6 hz
    refine z_goto (pc' := 109) dX12_does_91 (by decide) ?_
    exact z_vret dX12_does_109 rfl h
  have h := h.2
  by_cases hc2 : x1 = 2
  · have h := h.1 hc2
    refine z_tableIn (off := 93) (pt := 94) dX12_does_1 (by rw [hc2]; decide) (by rw [hc2]; decide) (by rw [hc2]; decide) (by decide) ?_
    refine z_aload_n (pc' := 95) dX12_does_94 rfl rfl ?_
    refine z_iload_n (pc' := 96) dX12_does_95 rfl rfl ?_
    refine z_iconst (x := 0) (pc' := 97) dX12_does_96 (by decide) rfl ?_
    refine z_iconst (x := 5) (pc' := 98) dX12_does_97 (by decide) rfl ?_
    obtain ⟨h1, h⟩ := h
    obtain ⟨d1, b1, Qz, hm, hdd, hb, hkx, hk⟩ := h
    refine z_callV (Y := mX12_sets) (n := 3) (as := [.int x2, .int 0, .int 5]) (st := []) (pc' := 101) (ci := 13) (q := q0) hm dX12_does_98 kX12_425 vX12_sets rfl rfl (by decide) rfl h1 hdd hb (Nat.le_of_ble_eq_true rfl) (fun r G8 hz => ?_) hkx
    obtain ⟨rfl, h⟩ := hk r G8 hz
    refine z_goto (pc' := 109) dX12_does_101 (by decide) ?_
    exact z_vret dX12_does_109 rfl h
  have h := h.2
  have h := h hc0 hc1 hc2
  refine z_tableOut (pt := 104) dX12_does_1 (by have e0 := lv_neT (a := 0) hc0 (by decide); have e1 := lv_neT (a := 1) hc1 (by decide); have e2 := lv_neT (a := 2) hc2 (by decide); omega) (by decide) ?_
  refine z_aload_n (pc' := 105) dX12_does_104 rfl rfl ?_
  refine z_iload_n (pc' := 106) dX12_does_105 rfl rfl ?_
  obtain ⟨h1, h⟩ := h
  obtain ⟨d1, b1, Qz, hm, hdd, hb, hkx, hk⟩ := h
  refine z_callV (Y := mX12_prints) (n := 1) (as := [.int x2]) (st := []) (pc' := 109) (ci := 13) (q := q0) hm dX12_does_106 kX12_462 vX12_prints rfl rfl (by decide) rfl h1 hdd hb (Nat.le_of_ble_eq_true rfl) (fun r G10 hz => ?_) hkx
  obtain ⟨rfl, h⟩ := hk r G10 hz
  exact z_vret dX12_does_109 rfl h
def wp_X12_does_54 (E : ZE) (l : Launch) (d b : Nat) (G0 : ZG) (Q : ZQ) (k : Nat) (q0 : Nat) (x2 : Int32) (s0 : Int32) (s1 : Int32) (s2 : Int32) (p3 : Nat) (G : ZG) : Prop :=
  zob G p3 13 ∧
  xcV E l mX12_sets d [.ref p3, .int s2, .int s1, .int s0] G k (fun X G9 => Q (.inr X) G9) (fun G1 k2 =>
  zob G1 q0 13 ∧
  xcI E l mX12_now d [.ref q0, .int x2, .int 5] G1 k2 (fun X G9 => Q (.inr X) G9) (fun y3 G4 k5 =>
  zob G4 q0 13 ∧
  xcI E l mX12_lacksOf d [.ref q0, .int x2] G4 k5 (fun X G9 => Q (.inr X) G9) (fun y6 G7 k8 =>
  ((¬ y6 = 0 →
    zob G7 q0 13 ∧
    xcV E l mX12_sets d [.ref q0, .int x2, .int 5, .int (y3 + 1)] G7 k8 (fun X G9 => Q (.inr X) G9) (fun G9 k10 =>
    Q (.inl none) G9)) ∧
  (¬ (¬ y6 = 0) →
    zob G7 q0 13 ∧
    xcV E l mX12_sets d [.ref q0, .int x2, .int 5, .int (y3 + 0)] G7 k8 (fun X G9 => Q (.inr X) G9) (fun G11 k12 =>
    Q (.inl none) G11))))))
theorem wpt_X12_does_54 {E : ZE} {l : Launch} {d b : Nat} {G0 : ZG} {Q : ZQ} {k : Nat} {q0 : Nat} {x2 : Int32} {s0 : Int32} {s1 : Int32} {s2 : Int32} {p3 : Nat} {G : ZG} (h : wp_X12_does_54 E l d b G0 Q k q0 x2 s0 s1 s2 p3 G) : zW E l mX12_does d b G0 Q k 54 [some (.ref q0), none, some (.int x2)] [.int s0, .int s1, .int s2, .ref p3] G := by
  unfold wp_X12_does_54 at h
  obtain ⟨h1, h⟩ := h
  obtain ⟨d1, b1, Qz, hm, hdd, hb, hkx, hk⟩ := h
  refine z_callV (Y := mX12_sets) (n := 3) (as := [.int s2, .int s1, .int s0]) (st := []) (pc' := 57) (ci := 13) (q := p3) hm dX12_does_54 kX12_425 vX12_sets rfl rfl (by decide) rfl h1 hdd hb (Nat.le_of_ble_eq_true rfl) (fun r G1 hz => ?_) hkx
  obtain ⟨rfl, h⟩ := hk r G1 hz
  refine z_aload_n (pc' := 58) dX12_does_57 rfl rfl ?_
  refine z_iload_n (pc' := 59) dX12_does_58 rfl rfl ?_
  refine z_iconst (x := 5) (pc' := 60) dX12_does_59 (by decide) rfl ?_
  refine z_aload_n (pc' := 61) dX12_does_60 rfl rfl ?_
  refine z_iload_n (pc' := 62) dX12_does_61 rfl rfl ?_
  refine z_iconst (x := 5) (pc' := 63) dX12_does_62 (by decide) rfl ?_
  obtain ⟨h1, h⟩ := h
  obtain ⟨d1, b1, Qz, hm, hdd, hb, hkx, hk⟩ := h
  refine z_callV (Y := mX12_now) (n := 2) (as := [.int x2, .int 5]) (st := [.int 5, .int x2, .ref q0]) (pc' := 66) (ci := 13) (q := q0) hm dX12_does_63 kX12_434 vX12_now rfl rfl (by decide) rfl h1 hdd hb (Nat.le_of_ble_eq_true rfl) (fun r G4 hz => ?_) hkx
  obtain ⟨y3, rfl, h⟩ := hk r G4 hz
  refine z_aload_n (pc' := 67) dX12_does_66 rfl rfl ?_
  refine z_iload_n (pc' := 68) dX12_does_67 rfl rfl ?_
  obtain ⟨h1, h⟩ := h
  obtain ⟨d1, b1, Qz, hm, hdd, hb, hkx, hk⟩ := h
  refine z_callV (Y := mX12_lacksOf) (n := 1) (as := [.int x2]) (st := [.int y3, .int 5, .int x2, .ref q0]) (pc' := 71) (ci := 13) (q := q0) hm dX12_does_68 kX12_437 vX12_lacksOf rfl rfl (by decide) rfl h1 hdd hb (Nat.le_of_ble_eq_true rfl) (fun r G7 hz => ?_) hkx
  obtain ⟨y6, rfl, h⟩ := hk r G7 hz
  refine z_if_ne (pt := 78) (pc' := 74) dX12_does_71 (by decide) rfl (fun hc => ?_) (fun hc => ?_)
  · have h := h.1 hc
    refine z_iconst (x := 1) (pc' := 79) dX12_does_78 (by decide) rfl ?_
    refine z_iadd (pc' := 80) dX12_does_79 rfl rfl ?_
    obtain ⟨h1, h⟩ := h
    obtain ⟨d1, b1, Qz, hm, hdd, hb, hkx, hk⟩ := h
    refine z_callV (Y := mX12_sets) (n := 3) (as := [.int x2, .int 5, .int (y3 + 1)]) (st := []) (pc' := 83) (ci := 13) (q := q0) hm dX12_does_80 kX12_425 vX12_sets rfl rfl (by decide) rfl h1 hdd hb (Nat.le_of_ble_eq_true rfl) (fun r G9 hz => ?_) hkx
    obtain ⟨rfl, h⟩ := hk r G9 hz
    refine z_goto (pc' := 109) dX12_does_83 (by decide) ?_
    exact z_vret dX12_does_109 rfl h
  · have h := h.2 hc
    refine z_iconst (x := 0) (pc' := 75) dX12_does_74 (by decide) rfl ?_
    refine z_goto (pc' := 79) dX12_does_75 (by decide) ?_
    refine z_iadd (pc' := 80) dX12_does_79 rfl rfl ?_
    obtain ⟨h1, h⟩ := h
    obtain ⟨d1, b1, Qz, hm, hdd, hb, hkx, hk⟩ := h
    refine z_callV (Y := mX12_sets) (n := 3) (as := [.int x2, .int 5, .int (y3 + 0)]) (st := []) (pc' := 83) (ci := 13) (q := q0) hm dX12_does_80 kX12_425 vX12_sets rfl rfl (by decide) rfl h1 hdd hb (Nat.le_of_ble_eq_true rfl) (fun r G11 hz => ?_) hkx
    obtain ⟨rfl, h⟩ := hk r G11 hz
    refine z_goto (pc' := 109) dX12_does_83 (by decide) ?_
    exact z_vret dX12_does_109 rfl h
def wp_X12_end_0 (E : ZE) (l : Launch) (d b : Nat) (G0 : ZG) (Q : ZQ) (k : Nat) (q0 : Nat) (x1 : Int32) (G : ZG) : Prop :=
  zob G q0 13 ∧
  ∀ G1, G1 = zsi G q0 0 0 →
  ((x1 < 0 →
    Q (.inl (some (.int 0))) G1) ∧
  (¬ (x1 < 0) →
    zob G1 q0 13 ∧
    ((x1 ≤ (ziv G1 q0 3) →
      zob G1 q0 13 ∧
      ∀ G2, G2 = zsi G1 q0 3 x1 →
      Q (.inl (some (.int 1))) G2) ∧
    (¬ (x1 ≤ (ziv G1 q0 3)) →
      Q (.inl (some (.int 0))) G1))))
theorem wpt_X12_end_0 {E : ZE} {l : Launch} {d b : Nat} {G0 : ZG} {Q : ZQ} {k : Nat} {q0 : Nat} {x1 : Int32} {G : ZG} (h : wp_X12_end_0 E l d b G0 Q k q0 x1 G) : zW E l mX12_end d b G0 Q k 0 [some (.ref q0), some (.int x1)] [] G := by
  unfold wp_X12_end_0 at h
  refine z_aload_n (pc' := 1) dX12_end_0 rfl rfl ?_
  refine z_iconst (x := 0) (pc' := 2) dX12_end_1 (by decide) rfl ?_
  obtain ⟨h1, h⟩ := h
  obtain ⟨G1, hG⟩ : ∃ z, z = zsi G q0 0 0 := ⟨_, rfl⟩
  have h := h _ hG
  refine z_putI (ci := 13) (kf := 0) (pc' := 5) dX12_end_2 kX12_178 (Or.inl rfl) (by decide) (by decide) rfl (Or.inl rfl) rfl h1 (zok_int _) ?_
  refine z_st hG ?_
  refine z_iload_n (pc' := 6) dX12_end_5 rfl rfl ?_
  refine z_if_lt (pt := 17) (pc' := 9) dX12_end_6 (by decide) rfl (fun hc => ?_) (fun hc => ?_)
  · have h := h.1 hc
    refine z_iconst (x := 0) (pc' := 18) dX12_end_17 (by decide) rfl ?_
    exact z_zret (ty := .boolean) dX12_end_18 rfl (by decide) h
  · have h := h.2 hc
    refine z_iload_n (pc' := 10) dX12_end_9 rfl rfl ?_
    refine z_aload_n (pc' := 11) dX12_end_10 rfl rfl ?_
    obtain ⟨h1, h⟩ := h
    refine z_getI (ci := 13) (kf := 3) (pc' := 14) dX12_end_11 kX12_181 (Or.inl rfl) (by decide) (by decide) rfl rfl h1 ?_
    refine z_icmp_le (pt := 19) (pc' := 17) dX12_end_14 (by decide) rfl (fun hc => ?_) (fun hc => ?_)
    · have h := h.1 hc
      refine z_aload_n (pc' := 20) dX12_end_19 rfl rfl ?_
      refine z_iload_n (pc' := 21) dX12_end_20 rfl rfl ?_
      obtain ⟨h1, h⟩ := h
      obtain ⟨G2, hG⟩ : ∃ z, z = zsi G1 q0 3 x1 := ⟨_, rfl⟩
      have h := h _ hG
      refine z_putI (ci := 13) (kf := 3) (pc' := 24) dX12_end_21 kX12_181 (Or.inl rfl) (by decide) (by decide) rfl (Or.inl rfl) rfl h1 (zok_int _) ?_
      refine z_st hG ?_
      refine z_iconst (x := 1) (pc' := 25) dX12_end_24 (by decide) rfl ?_
      exact z_zret (ty := .boolean) dX12_end_25 rfl (by decide) h
    · have h := h.2 hc
      refine z_iconst (x := 0) (pc' := 18) dX12_end_17 (by decide) rfl ?_
      exact z_zret (ty := .boolean) dX12_end_18 rfl (by decide) h
def wp_X12_ends_0 (E : ZE) (l : Launch) (d b : Nat) (G0 : ZG) (Q : ZQ) (k : Nat) (q0 : Nat) (x1 : Int32) (x2 : Int32) (G : ZG) : Prop :=
  zob G q0 13 ∧
  ∀ G1, G1 = zsi G q0 0 0 →
  zW E l mX12_ends d b G0 Q k 10 [some (.ref q0), some (.int x1), some (.int x2), some (.int 0), some (.int 0)] [] G1
theorem wpt_X12_ends_0 {E : ZE} {l : Launch} {d b : Nat} {G0 : ZG} {Q : ZQ} {k : Nat} {q0 : Nat} {x1 : Int32} {x2 : Int32} {G : ZG} (h : wp_X12_ends_0 E l d b G0 Q k q0 x1 x2 G) : zW E l mX12_ends d b G0 Q k 0 [some (.ref q0), some (.int x1), some (.int x2), none, none] [] G := by
  unfold wp_X12_ends_0 at h
  refine z_aload_n (pc' := 1) dX12_ends_0 rfl rfl ?_
  refine z_iconst (x := 0) (pc' := 2) dX12_ends_1 (by decide) rfl ?_
  obtain ⟨h1, h⟩ := h
  obtain ⟨G1, hG⟩ : ∃ z, z = zsi G q0 0 0 := ⟨_, rfl⟩
  have h := h _ hG
  refine z_putI (ci := 13) (kf := 0) (pc' := 5) dX12_ends_2 kX12_178 (Or.inl rfl) (by decide) (by decide) rfl (Or.inl rfl) rfl h1 (zok_int _) ?_
  refine z_st hG ?_
  refine z_iconst (x := 0) (pc' := 6) dX12_ends_5 (by decide) rfl ?_
  refine z_istore_n (pc' := 7) dX12_ends_6 (by decide) rfl ?_
  refine z_iconst (x := 0) (pc' := 8) dX12_ends_7 (by decide) rfl ?_
  refine z_istore (pc' := 10) dX12_ends_8 (by decide) rfl ?_
  exact z_dr (ls' := [some (.ref q0), some (.int x1), some (.int x2), some (.int 0), some (.int 0)]) ⟨rfl, rfl, rfl, rfl, rfl, trivial⟩ h
def wp_X12_ends_10 (E : ZE) (l : Launch) (d b : Nat) (G0 : ZG) (Q : ZQ) (k : Nat) (q0 : Nat) (x1 : Int32) (x2 : Int32) (x3 : Int32) (x4 : Int32) (G : ZG) : Prop :=
  zob G q0 13 ∧
  (((ziv G q0 71) ≤ x4 →
    Q (.inl (some (.int x3))) G) ∧
  (¬ ((ziv G q0 71) ≤ x4) →
    zob G q0 13 ∧
    (zar G (zrv G q0 69) 0 ∨ zrd G (zrv G q0 69) .int) ∧ vp_in x4 (zln G (zrv G q0 69)) ∧
    xcI E l mX12_in d [.int (ziv G (zrv G q0 69) x4.toNatClampNeg), .int x1, .int x2] G k (fun X G9 => Q (.inr X) G9) (fun y1 G2 k3 =>
    ((y1 = 0 →
      zW E l mX12_ends d b G0 Q k3 10 [some (.ref q0), some (.int x1), some (.int x2), some (.int (x3 + 0)), some (.int (x4 + 1))] [] G2) ∧
    (¬ (y1 = 0) →
      zW E l mX12_ends d b G0 Q k3 10 [some (.ref q0), some (.int x1), some (.int x2), some (.int (x3 + 1)), some (.int (x4 + 1))] [] G2)))))
theorem wpt_X12_ends_10 {E : ZE} {l : Launch} {d b : Nat} {G0 : ZG} {Q : ZQ} {k : Nat} {q0 : Nat} {x1 : Int32} {x2 : Int32} {x3 : Int32} {x4 : Int32} {G : ZG} (h : wp_X12_ends_10 E l d b G0 Q k q0 x1 x2 x3 x4 G) : zW E l mX12_ends d b G0 Q k 10 [some (.ref q0), some (.int x1), some (.int x2), some (.int x3), some (.int x4)] [] G := by
  unfold wp_X12_ends_10 at h
  refine z_iload (pc' := 12) dX12_ends_10 rfl rfl ?_
  refine z_aload_n (pc' := 13) dX12_ends_12 rfl rfl ?_
  obtain ⟨h1, h⟩ := h
  refine z_getI (ci := 13) (kf := 71) (pc' := 16) dX12_ends_13 kX12_415 (Or.inl rfl) (by decide) (by decide) rfl rfl h1 ?_
  refine z_icmp_ge (pt := 48) (pc' := 19) dX12_ends_16 (by decide) rfl (fun hc => ?_) (fun hc => ?_)
  · have h := h.1 hc
    refine z_iload_n (pc' := 49) dX12_ends_48 rfl rfl ?_
    exact z_iret dX12_ends_49 rfl h
  · have h := h.2 hc
    refine z_iload_n (pc' := 20) dX12_ends_19 rfl rfl ?_
    refine z_aload_n (pc' := 21) dX12_ends_20 rfl rfl ?_
    obtain ⟨h1, h⟩ := h
    refine z_getR (ci := 13) (kf := 69) (pc' := 24) dX12_ends_21 kX12_157 (Or.inl rfl) (by decide) (by decide) rfl rfl h1 ?_
    refine z_iload (pc' := 26) dX12_ends_24 rfl rfl ?_
    obtain ⟨h1, h2, h⟩ := h
    refine z_iald (pc' := 27) dX12_ends_26 rfl h1 h2 ?_
    refine z_iload_n (pc' := 28) dX12_ends_27 rfl rfl ?_
    refine z_iload_n (pc' := 29) dX12_ends_28 rfl rfl ?_
    obtain ⟨d1, b1, Qz, hm, hdd, hb, hkx, hk⟩ := h
    refine z_callS (Y := mX12_in) (n := 3) (as := [.int (ziv G (zrv G q0 69) x4.toNatClampNeg), .int x1, .int x2]) (st := [.int x3]) (pc' := 32) hm dX12_ends_29 kX12_317 sX12_in rfl rfl hdd hb (Nat.le_of_ble_eq_true rfl) (fun r G2 hz => ?_) hkx
    obtain ⟨y1, rfl, h⟩ := hk r G2 hz
    refine z_if_eq (pt := 39) (pc' := 35) dX12_ends_32 (by decide) rfl (fun hc => ?_) (fun hc => ?_)
    · have h := h.1 hc
      refine z_iconst (x := 0) (pc' := 40) dX12_ends_39 (by decide) rfl ?_
      refine z_iadd (pc' := 41) dX12_ends_40 rfl rfl ?_
      refine z_istore_n (pc' := 42) dX12_ends_41 (by decide) rfl ?_
      refine z_iinc (y := x4 + 1) (pc' := 45) dX12_ends_42 rfl (zinc_1 _) (by decide) rfl ?_
      refine z_goto (pc' := 10) dX12_ends_45 (by decide) ?_
      exact z_dr (ls' := [some (.ref q0), some (.int x1), some (.int x2), some (.int (x3 + 0)), some (.int (x4 + 1))]) ⟨rfl, rfl, rfl, rfl, rfl, trivial⟩ h
    · have h := h.2 hc
      refine z_iconst (x := 1) (pc' := 36) dX12_ends_35 (by decide) rfl ?_
      refine z_goto (pc' := 40) dX12_ends_36 (by decide) ?_
      refine z_iadd (pc' := 41) dX12_ends_40 rfl rfl ?_
      refine z_istore_n (pc' := 42) dX12_ends_41 (by decide) rfl ?_
      refine z_iinc (y := x4 + 1) (pc' := 45) dX12_ends_42 rfl (zinc_1 _) (by decide) rfl ?_
      refine z_goto (pc' := 10) dX12_ends_45 (by decide) ?_
      exact z_dr (ls' := [some (.ref q0), some (.int x1), some (.int x2), some (.int (x3 + 1)), some (.int (x4 + 1))]) ⟨rfl, rfl, rfl, rfl, rfl, trivial⟩ h
def wp_X12_fact_0 (E : ZE) (l : Launch) (d b : Nat) (G0 : ZG) (Q : ZQ) (k : Nat) (x0 : Int32) (G : ZG) : Prop :=
  ((x0 = 0 →
    Q (.inl (some (.ref (zp 1000 23)))) G) ∧
  ((x0 = 1 →
    Q (.inl (some (.ref (zp 1000 24)))) G) ∧
  ((x0 = 2 →
    Q (.inl (some (.ref (zp 1000 25)))) G) ∧
  ((x0 = 3 →
    Q (.inl (some (.ref (zp 1000 26)))) G) ∧
  ((x0 = 4 →
    Q (.inl (some (.ref (zp 1000 27)))) G) ∧
  ((x0 = 5 →
    Q (.inl (some (.ref (zp 1000 28)))) G) ∧
  ((x0 = 6 →
    Q (.inl (some (.ref (zp 1000 29)))) G) ∧
  ((x0 = 7 →
    Q (.inl (some (.ref (zp 1000 30)))) G) ∧
  (¬ x0 = 0 → ¬ x0 = 1 → ¬ x0 = 2 → ¬ x0 = 3 → ¬ x0 = 4 → ¬ x0 = 5 → ¬ x0 = 6 → ¬ x0 = 7 →
    Q (.inl (some (.ref (zp 1000 31)))) G)))))))))
theorem wpt_X12_fact_0 {E : ZE} {l : Launch} {d b : Nat} {G0 : ZG} {Q : ZQ} {k : Nat} {x0 : Int32} {G : ZG} (h : wp_X12_fact_0 E l d b G0 Q k x0 G) : zW E l mX12_fact d b G0 Q k 0 [some (.int x0)] [] G := by
  unfold wp_X12_fact_0 at h
  refine z_iload_n (pc' := 1) dX12_fact_0 rfl rfl ?_
  by_cases hc0 : x0 = 0
  · have h := h.1 hc0
    refine z_tableIn (off := 47) (pt := 48) dX12_fact_1 (by rw [hc0]; decide) (by rw [hc0]; decide) (by rw [hc0]; decide) (by decide) ?_
    refine z_ldcS (n := 23) (pc' := 50) (own := RX12) (tx := "age") rfl (by decide) dX12_fact_48 rfl ?_
    exact z_aret dX12_fact_50 rfl (Or.inl ⟨_, rfl⟩) h
  have h := h.2
  by_cases hc1 : x0 = 1
  · have h := h.1 hc1
    refine z_tableIn (off := 50) (pt := 51) dX12_fact_1 (by rw [hc1]; decide) (by rw [hc1]; decide) (by rw [hc1]; decide) (by decide) ?_
    refine z_ldcS (n := 24) (pc' := 53) (own := RX12) (tx := "wanted") rfl (by decide) dX12_fact_51 rfl ?_
    exact z_aret dX12_fact_53 rfl (Or.inl ⟨_, rfl⟩) h
  have h := h.2
  by_cases hc2 : x0 = 2
  · have h := h.1 hc2
    refine z_tableIn (off := 53) (pt := 54) dX12_fact_1 (by rw [hc2]; decide) (by rw [hc2]; decide) (by rw [hc2]; decide) (by decide) ?_
    refine z_ldcS (n := 25) (pc' := 56) (own := RX12) (tx := "valid") rfl (by decide) dX12_fact_54 rfl ?_
    exact z_aret dX12_fact_56 rfl (Or.inl ⟨_, rfl⟩) h
  have h := h.2
  by_cases hc3 : x0 = 3
  · have h := h.1 hc3
    refine z_tableIn (off := 56) (pt := 57) dX12_fact_1 (by rw [hc3]; decide) (by rw [hc3]; decide) (by rw [hc3]; decide) (by decide) ?_
    refine z_ldcS (n := 26) (pc' := 59) (own := RX12) (tx := "abroad") rfl (by decide) dX12_fact_57 rfl ?_
    exact z_aret dX12_fact_59 rfl (Or.inl ⟨_, rfl⟩) h
  have h := h.2
  by_cases hc4 : x0 = 4
  · have h := h.1 hc4
    refine z_tableIn (off := 59) (pt := 60) dX12_fact_1 (by rw [hc4]; decide) (by rw [hc4]; decide) (by rw [hc4]; decide) (by decide) ?_
    refine z_ldcS (n := 27) (pc' := 62) (own := RX12) (tx := "first") rfl (by decide) dX12_fact_60 rfl ?_
    exact z_aret dX12_fact_62 rfl (Or.inl ⟨_, rfl⟩) h
  have h := h.2
  by_cases hc5 : x0 = 5
  · have h := h.1 hc5
    refine z_tableIn (off := 62) (pt := 63) dX12_fact_1 (by rw [hc5]; decide) (by rw [hc5]; decide) (by rw [hc5]; decide) (by decide) ?_
    refine z_ldcS (n := 28) (pc' := 65) (own := RX12) (tx := "renew") rfl (by decide) dX12_fact_63 rfl ?_
    exact z_aret dX12_fact_65 rfl (Or.inl ⟨_, rfl⟩) h
  have h := h.2
  by_cases hc6 : x0 = 6
  · have h := h.1 hc6
    refine z_tableIn (off := 65) (pt := 66) dX12_fact_1 (by rw [hc6]; decide) (by rw [hc6]; decide) (by rw [hc6]; decide) (by decide) ?_
    refine z_ldcS (n := 29) (pc' := 68) (own := RX12) (tx := "lost") rfl (by decide) dX12_fact_66 rfl ?_
    exact z_aret dX12_fact_68 rfl (Or.inl ⟨_, rfl⟩) h
  have h := h.2
  by_cases hc7 : x0 = 7
  · have h := h.1 hc7
    refine z_tableIn (off := 68) (pt := 69) dX12_fact_1 (by rw [hc7]; decide) (by rw [hc7]; decide) (by rw [hc7]; decide) (by decide) ?_
    refine z_ldcS (n := 30) (pc' := 71) (own := RX12) (tx := "second") rfl (by decide) dX12_fact_69 rfl ?_
    exact z_aret dX12_fact_71 rfl (Or.inl ⟨_, rfl⟩) h
  have h := h.2
  have h := h hc0 hc1 hc2 hc3 hc4 hc5 hc6 hc7
  refine z_tableOut (pt := 72) dX12_fact_1 (by have e0 := lv_neT (a := 0) hc0 (by decide); have e1 := lv_neT (a := 1) hc1 (by decide); have e2 := lv_neT (a := 2) hc2 (by decide); have e3 := lv_neT (a := 3) hc3 (by decide); have e4 := lv_neT (a := 4) hc4 (by decide); have e5 := lv_neT (a := 5) hc5 (by decide); have e6 := lv_neT (a := 6) hc6 (by decide); have e7 := lv_neT (a := 7) hc7 (by decide); omega) (by decide) ?_
  refine z_ldcS (n := 31) (pc' := 74) (own := RX12) (tx := "urgent") rfl (by decide) dX12_fact_72 rfl ?_
  exact z_aret dX12_fact_74 rfl (Or.inl ⟨_, rfl⟩) h
def wp_X12_far_0 (E : ZE) (l : Launch) (d b : Nat) (G0 : ZG) (Q : ZQ) (k : Nat) (q0 : Nat) (x1 : Int32) (x2 : Int32) (G : ZG) : Prop :=
  zob G q0 13 ∧
  ∀ G1, G1 = zsi G q0 0 0 →
  zob G1 q0 13 ∧
  xcI E l mX12_nobody d [.ref q0, .int x1] G1 k (fun X G9 => Q (.inr X) G9) (fun y2 G3 k4 =>
  ((¬ y2 = 0 →
    zob G3 q0 13 ∧
    xcI E l mX12_throwsIf d [.ref q0, .int 1, .int 1] G3 k4 (fun X G9 => Q (.inr X) G9) (fun y5 G6 k7 =>
    ((y5 = 0 →
      zob G6 q0 13 ∧
      xcI E l mX12_farOf d [.ref q0, .int x1, .int x2] G6 k7 (fun X G9 => Q (.inr X) G9) (fun y8 G9 k10 =>
      Q (.inl (some (.int y8))) G9)) ∧
    (¬ (y5 = 0) →
      Q (.inl (some (.int 0))) G6)))) ∧
  (¬ (¬ y2 = 0) →
    zob G3 q0 13 ∧
    xcI E l mX12_nobody d [.ref q0, .int x2] G3 k4 (fun X G9 => Q (.inr X) G9) (fun y11 G12 k13 =>
    ((y11 = 0 →
      zob G12 q0 13 ∧
      xcI E l mX12_throwsIf d [.ref q0, .int 0, .int 1] G12 k13 (fun X G9 => Q (.inr X) G9) (fun y14 G15 k16 =>
      ((y14 = 0 →
        zob G15 q0 13 ∧
        xcI E l mX12_farOf d [.ref q0, .int x1, .int x2] G15 k16 (fun X G9 => Q (.inr X) G9) (fun y17 G18 k19 =>
        Q (.inl (some (.int y17))) G18)) ∧
      (¬ (y14 = 0) →
        Q (.inl (some (.int 0))) G15)))) ∧
    (¬ (y11 = 0) →
      zob G12 q0 13 ∧
      xcI E l mX12_throwsIf d [.ref q0, .int 1, .int 1] G12 k13 (fun X G9 => Q (.inr X) G9) (fun y20 G21 k22 =>
      ((y20 = 0 →
        zob G21 q0 13 ∧
        xcI E l mX12_farOf d [.ref q0, .int x1, .int x2] G21 k22 (fun X G9 => Q (.inr X) G9) (fun y23 G24 k25 =>
        Q (.inl (some (.int y23))) G24)) ∧
      (¬ (y20 = 0) →
        Q (.inl (some (.int 0))) G21)))))))))
theorem wpt_X12_far_0 {E : ZE} {l : Launch} {d b : Nat} {G0 : ZG} {Q : ZQ} {k : Nat} {q0 : Nat} {x1 : Int32} {x2 : Int32} {G : ZG} (h : wp_X12_far_0 E l d b G0 Q k q0 x1 x2 G) : zW E l mX12_far d b G0 Q k 0 [some (.ref q0), some (.int x1), some (.int x2)] [] G := by
  unfold wp_X12_far_0 at h
  refine z_aload_n (pc' := 1) dX12_far_0 rfl rfl ?_
  refine z_iconst (x := 0) (pc' := 2) dX12_far_1 (by decide) rfl ?_
  obtain ⟨h1, h⟩ := h
  obtain ⟨G1, hG⟩ : ∃ z, z = zsi G q0 0 0 := ⟨_, rfl⟩
  have h := h _ hG
  refine z_putI (ci := 13) (kf := 0) (pc' := 5) dX12_far_2 kX12_178 (Or.inl rfl) (by decide) (by decide) rfl (Or.inl rfl) rfl h1 (zok_int _) ?_
  refine z_st hG ?_
  refine z_aload_n (pc' := 6) dX12_far_5 rfl rfl ?_
  refine z_aload_n (pc' := 7) dX12_far_6 rfl rfl ?_
  refine z_iload_n (pc' := 8) dX12_far_7 rfl rfl ?_
  obtain ⟨h1, h⟩ := h
  obtain ⟨d1, b1, Qz, hm, hdd, hb, hkx, hk⟩ := h
  refine z_callV (Y := mX12_nobody) (n := 1) (as := [.int x1]) (st := [.ref q0]) (pc' := 11) (ci := 13) (q := q0) hm dX12_far_8 kX12_385 vX12_nobody rfl rfl (by decide) rfl h1 hdd hb (Nat.le_of_ble_eq_true rfl) (fun r G3 hz => ?_) hkx
  obtain ⟨y2, rfl, h⟩ := hk r G3 hz
  refine z_if_ne (pt := 22) (pc' := 14) dX12_far_11 (by decide) rfl (fun hc => ?_) (fun hc => ?_)
  · have h := h.1 hc
    refine z_iconst (x := 1) (pc' := 23) dX12_far_22 (by decide) rfl ?_
    refine z_goto (pc' := 27) dX12_far_23 (by decide) ?_
    refine z_iconst (x := 1) (pc' := 28) dX12_far_27 (by decide) rfl ?_
    obtain ⟨h1, h⟩ := h
    obtain ⟨d1, b1, Qz, hm, hdd, hb, hkx, hk⟩ := h
    refine z_callV (Y := mX12_throwsIf) (n := 2) (as := [.int 1, .int 1]) (st := []) (pc' := 31) (ci := 13) (q := q0) hm dX12_far_28 kX12_321 vX12_throwsIf rfl rfl (by decide) rfl h1 hdd hb (Nat.le_of_ble_eq_true rfl) (fun r G6 hz => ?_) hkx
    obtain ⟨y5, rfl, h⟩ := hk r G6 hz
    refine z_if_eq (pt := 38) (pc' := 34) dX12_far_31 (by decide) rfl (fun hc => ?_) (fun hc => ?_)
    · have h := h.1 hc
      refine z_aload_n (pc' := 39) dX12_far_38 rfl rfl ?_
      refine z_iload_n (pc' := 40) dX12_far_39 rfl rfl ?_
      refine z_iload_n (pc' := 41) dX12_far_40 rfl rfl ?_
      obtain ⟨h1, h⟩ := h
      obtain ⟨d1, b1, Qz, hm, hdd, hb, hkx, hk⟩ := h
      refine z_callV (Y := mX12_farOf) (n := 2) (as := [.int x1, .int x2]) (st := []) (pc' := 44) (ci := 13) (q := q0) hm dX12_far_41 kX12_391 vX12_farOf rfl rfl (by decide) rfl h1 hdd hb (Nat.le_of_ble_eq_true rfl) (fun r G9 hz => ?_) hkx
      obtain ⟨y8, rfl, h⟩ := hk r G9 hz
      exact z_iret dX12_far_44 rfl h
    · have h := h.2 hc
      refine z_iconst (x := 0) (pc' := 35) dX12_far_34 (by decide) rfl ?_
      refine z_goto (pc' := 44) dX12_far_35 (by decide) ?_
      exact z_iret dX12_far_44 rfl h
  · have h := h.2 hc
    refine z_aload_n (pc' := 15) dX12_far_14 rfl rfl ?_
    refine z_iload_n (pc' := 16) dX12_far_15 rfl rfl ?_
    obtain ⟨h1, h⟩ := h
    obtain ⟨d1, b1, Qz, hm, hdd, hb, hkx, hk⟩ := h
    refine z_callV (Y := mX12_nobody) (n := 1) (as := [.int x2]) (st := [.ref q0]) (pc' := 19) (ci := 13) (q := q0) hm dX12_far_16 kX12_385 vX12_nobody rfl rfl (by decide) rfl h1 hdd hb (Nat.le_of_ble_eq_true rfl) (fun r G12 hz => ?_) hkx
    obtain ⟨y11, rfl, h⟩ := hk r G12 hz
    refine z_if_eq (pt := 26) (pc' := 22) dX12_far_19 (by decide) rfl (fun hc => ?_) (fun hc => ?_)
    · have h := h.1 hc
      refine z_iconst (x := 0) (pc' := 27) dX12_far_26 (by decide) rfl ?_
      refine z_iconst (x := 1) (pc' := 28) dX12_far_27 (by decide) rfl ?_
      obtain ⟨h1, h⟩ := h
      obtain ⟨d1, b1, Qz, hm, hdd, hb, hkx, hk⟩ := h
      refine z_callV (Y := mX12_throwsIf) (n := 2) (as := [.int 0, .int 1]) (st := []) (pc' := 31) (ci := 13) (q := q0) hm dX12_far_28 kX12_321 vX12_throwsIf rfl rfl (by decide) rfl h1 hdd hb (Nat.le_of_ble_eq_true rfl) (fun r G15 hz => ?_) hkx
      obtain ⟨y14, rfl, h⟩ := hk r G15 hz
      refine z_if_eq (pt := 38) (pc' := 34) dX12_far_31 (by decide) rfl (fun hc => ?_) (fun hc => ?_)
      · have h := h.1 hc
        refine z_aload_n (pc' := 39) dX12_far_38 rfl rfl ?_
        refine z_iload_n (pc' := 40) dX12_far_39 rfl rfl ?_
        refine z_iload_n (pc' := 41) dX12_far_40 rfl rfl ?_
        obtain ⟨h1, h⟩ := h
        obtain ⟨d1, b1, Qz, hm, hdd, hb, hkx, hk⟩ := h
        refine z_callV (Y := mX12_farOf) (n := 2) (as := [.int x1, .int x2]) (st := []) (pc' := 44) (ci := 13) (q := q0) hm dX12_far_41 kX12_391 vX12_farOf rfl rfl (by decide) rfl h1 hdd hb (Nat.le_of_ble_eq_true rfl) (fun r G18 hz => ?_) hkx
        obtain ⟨y17, rfl, h⟩ := hk r G18 hz
        exact z_iret dX12_far_44 rfl h
      · have h := h.2 hc
        refine z_iconst (x := 0) (pc' := 35) dX12_far_34 (by decide) rfl ?_
        refine z_goto (pc' := 44) dX12_far_35 (by decide) ?_
        exact z_iret dX12_far_44 rfl h
    · have h := h.2 hc
      refine z_iconst (x := 1) (pc' := 23) dX12_far_22 (by decide) rfl ?_
      refine z_goto (pc' := 27) dX12_far_23 (by decide) ?_
      refine z_iconst (x := 1) (pc' := 28) dX12_far_27 (by decide) rfl ?_
      obtain ⟨h1, h⟩ := h
      obtain ⟨d1, b1, Qz, hm, hdd, hb, hkx, hk⟩ := h
      refine z_callV (Y := mX12_throwsIf) (n := 2) (as := [.int 1, .int 1]) (st := []) (pc' := 31) (ci := 13) (q := q0) hm dX12_far_28 kX12_321 vX12_throwsIf rfl rfl (by decide) rfl h1 hdd hb (Nat.le_of_ble_eq_true rfl) (fun r G21 hz => ?_) hkx
      obtain ⟨y20, rfl, h⟩ := hk r G21 hz
      refine z_if_eq (pt := 38) (pc' := 34) dX12_far_31 (by decide) rfl (fun hc => ?_) (fun hc => ?_)
      · have h := h.1 hc
        refine z_aload_n (pc' := 39) dX12_far_38 rfl rfl ?_
        refine z_iload_n (pc' := 40) dX12_far_39 rfl rfl ?_
        refine z_iload_n (pc' := 41) dX12_far_40 rfl rfl ?_
        obtain ⟨h1, h⟩ := h
        obtain ⟨d1, b1, Qz, hm, hdd, hb, hkx, hk⟩ := h
        refine z_callV (Y := mX12_farOf) (n := 2) (as := [.int x1, .int x2]) (st := []) (pc' := 44) (ci := 13) (q := q0) hm dX12_far_41 kX12_391 vX12_farOf rfl rfl (by decide) rfl h1 hdd hb (Nat.le_of_ble_eq_true rfl) (fun r G24 hz => ?_) hkx
        obtain ⟨y23, rfl, h⟩ := hk r G24 hz
        exact z_iret dX12_far_44 rfl h
      · have h := h.2 hc
        refine z_iconst (x := 0) (pc' := 35) dX12_far_34 (by decide) rfl ?_
        refine z_goto (pc' := 44) dX12_far_35 (by decide) ?_
        exact z_iret dX12_far_44 rfl h
def wp_X12_farOf_0 (E : ZE) (l : Launch) (d b : Nat) (G0 : ZG) (Q : ZQ) (k : Nat) (q0 : Nat) (x1 : Int32) (x2 : Int32) (G : ZG) : Prop :=
  zW E l mX12_farOf d b G0 Q k 5 [some (.ref q0), some (.int x1), some (.int x2), some (.int 0), some (.int 0), none] [] G
theorem wpt_X12_farOf_0 {E : ZE} {l : Launch} {d b : Nat} {G0 : ZG} {Q : ZQ} {k : Nat} {q0 : Nat} {x1 : Int32} {x2 : Int32} {G : ZG} (h : wp_X12_farOf_0 E l d b G0 Q k q0 x1 x2 G) : zW E l mX12_farOf d b G0 Q k 0 [some (.ref q0), some (.int x1), some (.int x2), none, none, none] [] G := by
  unfold wp_X12_farOf_0 at h
  refine z_iconst (x := 0) (pc' := 1) dX12_farOf_0 (by decide) rfl ?_
  refine z_istore_n (pc' := 2) dX12_farOf_1 (by decide) rfl ?_
  refine z_iconst (x := 0) (pc' := 3) dX12_farOf_2 (by decide) rfl ?_
  refine z_istore (pc' := 5) dX12_farOf_3 (by decide) rfl ?_
  exact z_dr (ls' := [some (.ref q0), some (.int x1), some (.int x2), some (.int 0), some (.int 0), none]) ⟨rfl, rfl, rfl, rfl, rfl, trivial⟩ h
def wp_X12_farOf_5 (E : ZE) (l : Launch) (d b : Nat) (G0 : ZG) (Q : ZQ) (k : Nat) (q0 : Nat) (x1 : Int32) (x2 : Int32) (x3 : Int32) (x4 : Int32) (G : ZG) : Prop :=
  ((5 ≤ x4 →
    Q (.inl (some (.int x3))) G) ∧
  (¬ (5 ≤ x4) →
    zob G q0 13 ∧
    (zar G (zrv G q0 31) 0 ∨ zrd G (zrv G q0 31) .int) ∧ vp_in ((5 * x1) + x4) (zln G (zrv G q0 31)) ∧
    zob G q0 13 ∧
    (zar G (zrv G q0 31) 0 ∨ zrd G (zrv G q0 31) .int) ∧ vp_in ((5 * x2) + x4) (zln G (zrv G q0 31)) ∧
    zW E l mX12_farOf d b G0 Q k 5 [some (.ref q0), some (.int x1), some (.int x2), some (.int (x3 + (((ziv G (zrv G q0 31) ((5 * x1) + x4).toNatClampNeg) - (ziv G (zrv G q0 31) ((5 * x2) + x4).toNatClampNeg)) * ((ziv G (zrv G q0 31) ((5 * x1) + x4).toNatClampNeg) - (ziv G (zrv G q0 31) ((5 * x2) + x4).toNatClampNeg))))), some (.int (x4 + 1)), none] [] G))
theorem wpt_X12_farOf_5 {E : ZE} {l : Launch} {d b : Nat} {G0 : ZG} {Q : ZQ} {k : Nat} {q0 : Nat} {x1 : Int32} {x2 : Int32} {x3 : Int32} {x4 : Int32} {G : ZG} (h : wp_X12_farOf_5 E l d b G0 Q k q0 x1 x2 x3 x4 G) : zW E l mX12_farOf d b G0 Q k 5 [some (.ref q0), some (.int x1), some (.int x2), some (.int x3), some (.int x4), none] [] G := by
  unfold wp_X12_farOf_5 at h
  refine z_iload (pc' := 7) dX12_farOf_5 rfl rfl ?_
  refine z_iconst (x := 5) (pc' := 8) dX12_farOf_7 (by decide) rfl ?_
  refine z_icmp_ge (pt := 50) (pc' := 11) dX12_farOf_8 (by decide) rfl (fun hc => ?_) (fun hc => ?_)
  · have h := h.1 hc
    refine z_iload_n (pc' := 51) dX12_farOf_50 rfl rfl ?_
    exact z_iret dX12_farOf_51 rfl h
  · have h := h.2 hc
    refine z_aload_n (pc' := 12) dX12_farOf_11 rfl rfl ?_
    obtain ⟨h1, h⟩ := h
    refine z_getR (ci := 13) (kf := 31) (pc' := 15) dX12_farOf_12 kX12_61 (Or.inl rfl) (by decide) (by decide) rfl rfl h1 ?_
    refine z_iconst (x := 5) (pc' := 16) dX12_farOf_15 (by decide) rfl ?_
    refine z_iload_n (pc' := 17) dX12_farOf_16 rfl rfl ?_
    refine z_imul (pc' := 18) dX12_farOf_17 rfl rfl ?_
    refine z_iload (pc' := 20) dX12_farOf_18 rfl rfl ?_
    refine z_iadd (pc' := 21) dX12_farOf_20 rfl rfl ?_
    obtain ⟨h1, h2, h⟩ := h
    refine z_iald (pc' := 22) dX12_farOf_21 rfl h1 h2 ?_
    refine z_aload_n (pc' := 23) dX12_farOf_22 rfl rfl ?_
    obtain ⟨h1, h⟩ := h
    refine z_getR (ci := 13) (kf := 31) (pc' := 26) dX12_farOf_23 kX12_61 (Or.inl rfl) (by decide) (by decide) rfl rfl h1 ?_
    refine z_iconst (x := 5) (pc' := 27) dX12_farOf_26 (by decide) rfl ?_
    refine z_iload_n (pc' := 28) dX12_farOf_27 rfl rfl ?_
    refine z_imul (pc' := 29) dX12_farOf_28 rfl rfl ?_
    refine z_iload (pc' := 31) dX12_farOf_29 rfl rfl ?_
    refine z_iadd (pc' := 32) dX12_farOf_31 rfl rfl ?_
    obtain ⟨h1, h2, h⟩ := h
    refine z_iald (pc' := 33) dX12_farOf_32 rfl h1 h2 ?_
    refine z_isub (pc' := 34) dX12_farOf_33 rfl rfl ?_
    refine z_istore (pc' := 36) dX12_farOf_34 (by decide) rfl ?_
    refine z_iload_n (pc' := 37) dX12_farOf_36 rfl rfl ?_
    refine z_iload (pc' := 39) dX12_farOf_37 rfl rfl ?_
    refine z_iload (pc' := 41) dX12_farOf_39 rfl rfl ?_
    refine z_imul (pc' := 42) dX12_farOf_41 rfl rfl ?_
    refine z_iadd (pc' := 43) dX12_farOf_42 rfl rfl ?_
    refine z_istore_n (pc' := 44) dX12_farOf_43 (by decide) rfl ?_
    refine z_iinc (y := x4 + 1) (pc' := 47) dX12_farOf_44 rfl (zinc_1 _) (by decide) rfl ?_
    refine z_goto (pc' := 5) dX12_farOf_47 (by decide) ?_
    exact z_dr (ls' := [some (.ref q0), some (.int x1), some (.int x2), some (.int (x3 + (((ziv G (zrv G q0 31) ((5 * x1) + x4).toNatClampNeg) - (ziv G (zrv G q0 31) ((5 * x2) + x4).toNatClampNeg)) * ((ziv G (zrv G q0 31) ((5 * x1) + x4).toNatClampNeg) - (ziv G (zrv G q0 31) ((5 * x2) + x4).toNatClampNeg))))), some (.int (x4 + 1)), none]) ⟨rfl, rfl, rfl, rfl, rfl, trivial⟩ h
def wp_X12_fault_0 (E : ZE) (l : Launch) (d b : Nat) (G0 : ZG) (Q : ZQ) (k : Nat) (q0 : Nat) (G : ZG) : Prop :=
  zob G q0 13 ∧
  ∀ G1, G1 = zsi G q0 0 0 →
  zob G1 q0 13 ∧
  Q (.inl (some (.int (ziv G1 q0 8)))) G1
theorem wpt_X12_fault_0 {E : ZE} {l : Launch} {d b : Nat} {G0 : ZG} {Q : ZQ} {k : Nat} {q0 : Nat} {G : ZG} (h : wp_X12_fault_0 E l d b G0 Q k q0 G) : zW E l mX12_fault d b G0 Q k 0 [some (.ref q0)] [] G := by
  unfold wp_X12_fault_0 at h
  refine z_aload_n (pc' := 1) dX12_fault_0 rfl rfl ?_
  refine z_iconst (x := 0) (pc' := 2) dX12_fault_1 (by decide) rfl ?_
  obtain ⟨h1, h⟩ := h
  obtain ⟨G1, hG⟩ : ∃ z, z = zsi G q0 0 0 := ⟨_, rfl⟩
  have h := h _ hG
  refine z_putI (ci := 13) (kf := 0) (pc' := 5) dX12_fault_2 kX12_178 (Or.inl rfl) (by decide) (by decide) rfl (Or.inl rfl) rfl h1 (zok_int _) ?_
  refine z_st hG ?_
  refine z_aload_n (pc' := 6) dX12_fault_5 rfl rfl ?_
  obtain ⟨h1, h⟩ := h
  refine z_getI (ci := 13) (kf := 8) (pc' := 9) dX12_fault_6 kX12_13 (Or.inl rfl) (by decide) (by decide) rfl rfl h1 ?_
  exact z_iret dX12_fault_9 rfl h
def wp_X12_feed_0 (E : ZE) (l : Launch) (d b : Nat) (G0 : ZG) (Q : ZQ) (k : Nat) (q0 : Nat) (x1 : Int32) (x2 : Int32) (x3 : Int32) (x4 : Int32) (x5 : Int32) (G : ZG) : Prop :=
  zob G q0 13 ∧
  ∀ G1, G1 = zsi G q0 0 0 →
  zob G1 q0 13 ∧
  ((((ziv G1 q0 3) + 20) ≤ 400 →
    zob G1 q0 13 ∧
    zar G1 (zrv G1 q0 9) 0 ∧ vp_in 0 (zln G1 (zrv G1 q0 9)) ∧
    ∀ G2, G2 = zsi G1 (zrv G1 q0 9) (0 : Int32).toNatClampNeg x1 →
    zob G2 q0 13 ∧
    zar G2 (zrv G2 q0 9) 0 ∧ vp_in 1 (zln G2 (zrv G2 q0 9)) ∧
    ∀ G3, G3 = zsi G2 (zrv G2 q0 9) (1 : Int32).toNatClampNeg x2 →
    zob G3 q0 13 ∧
    zar G3 (zrv G3 q0 9) 0 ∧ vp_in 2 (zln G3 (zrv G3 q0 9)) ∧
    ∀ G4, G4 = zsi G3 (zrv G3 q0 9) (2 : Int32).toNatClampNeg x3 →
    zob G4 q0 13 ∧
    zar G4 (zrv G4 q0 9) 0 ∧ vp_in 3 (zln G4 (zrv G4 q0 9)) ∧
    ∀ G5, G5 = zsi G4 (zrv G4 q0 9) (3 : Int32).toNatClampNeg x4 →
    zob G5 q0 13 ∧
    zar G5 (zrv G5 q0 9) 0 ∧ vp_in 4 (zln G5 (zrv G5 q0 9)) ∧
    ∀ G6, G6 = zsi G5 (zrv G5 q0 9) (4 : Int32).toNatClampNeg x5 →
    zW E l mX12_feed d b G0 Q k 60 [some (.ref q0), none, none, none, none, none, some (.int 0)] [] G6) ∧
  (¬ (((ziv G1 q0 3) + 20) ≤ 400) →
    Q (.inl (some (.int (-1)))) G1))
theorem wpt_X12_feed_0 {E : ZE} {l : Launch} {d b : Nat} {G0 : ZG} {Q : ZQ} {k : Nat} {q0 : Nat} {x1 : Int32} {x2 : Int32} {x3 : Int32} {x4 : Int32} {x5 : Int32} {G : ZG} (h : wp_X12_feed_0 E l d b G0 Q k q0 x1 x2 x3 x4 x5 G) : zW E l mX12_feed d b G0 Q k 0 [some (.ref q0), some (.int x1), some (.int x2), some (.int x3), some (.int x4), some (.int x5), none] [] G := by
  unfold wp_X12_feed_0 at h
  refine z_aload_n (pc' := 1) dX12_feed_0 rfl rfl ?_
  refine z_iconst (x := 0) (pc' := 2) dX12_feed_1 (by decide) rfl ?_
  obtain ⟨h1, h⟩ := h
  obtain ⟨G1, hG⟩ : ∃ z, z = zsi G q0 0 0 := ⟨_, rfl⟩
  have h := h _ hG
  refine z_putI (ci := 13) (kf := 0) (pc' := 5) dX12_feed_2 kX12_178 (Or.inl rfl) (by decide) (by decide) rfl (Or.inl rfl) rfl h1 (zok_int _) ?_
  refine z_st hG ?_
  refine z_aload_n (pc' := 6) dX12_feed_5 rfl rfl ?_
  obtain ⟨h1, h⟩ := h
  refine z_getI (ci := 13) (kf := 3) (pc' := 9) dX12_feed_6 kX12_181 (Or.inl rfl) (by decide) (by decide) rfl rfl h1 ?_
  refine z_bipush (x := 20) (pc' := 11) dX12_feed_9 (by decide) rfl ?_
  refine z_iadd (pc' := 12) dX12_feed_11 rfl rfl ?_
  refine z_sipush (x := 400) (pc' := 15) dX12_feed_12 (by decide) rfl ?_
  refine z_icmp_le (pt := 20) (pc' := 18) dX12_feed_15 (by decide) rfl (fun hc => ?_) (fun hc => ?_)
  · have h := h.1 hc
    refine z_aload_n (pc' := 21) dX12_feed_20 rfl rfl ?_
    obtain ⟨h1, h⟩ := h
    refine z_getR (ci := 13) (kf := 9) (pc' := 24) dX12_feed_21 kX12_17 (Or.inl rfl) (by decide) (by decide) rfl rfl h1 ?_
    refine z_iconst (x := 0) (pc' := 25) dX12_feed_24 (by decide) rfl ?_
    refine z_iload_n (pc' := 26) dX12_feed_25 rfl rfl ?_
    obtain ⟨h1, h2, h⟩ := h
    obtain ⟨G2, hG⟩ : ∃ z, z = zsi G1 (zrv G1 q0 9) (0 : Int32).toNatClampNeg x1 := ⟨_, rfl⟩
    have h := h _ hG
    refine z_iast (pc' := 27) dX12_feed_26 rfl h1 h2  ?_
    refine z_st hG ?_
    refine z_aload_n (pc' := 28) dX12_feed_27 rfl rfl ?_
    obtain ⟨h1, h⟩ := h
    refine z_getR (ci := 13) (kf := 9) (pc' := 31) dX12_feed_28 kX12_17 (Or.inl rfl) (by decide) (by decide) rfl rfl h1 ?_
    refine z_iconst (x := 1) (pc' := 32) dX12_feed_31 (by decide) rfl ?_
    refine z_iload_n (pc' := 33) dX12_feed_32 rfl rfl ?_
    obtain ⟨h1, h2, h⟩ := h
    obtain ⟨G3, hG⟩ : ∃ z, z = zsi G2 (zrv G2 q0 9) (1 : Int32).toNatClampNeg x2 := ⟨_, rfl⟩
    have h := h _ hG
    refine z_iast (pc' := 34) dX12_feed_33 rfl h1 h2  ?_
    refine z_st hG ?_
    refine z_aload_n (pc' := 35) dX12_feed_34 rfl rfl ?_
    obtain ⟨h1, h⟩ := h
    refine z_getR (ci := 13) (kf := 9) (pc' := 38) dX12_feed_35 kX12_17 (Or.inl rfl) (by decide) (by decide) rfl rfl h1 ?_
    refine z_iconst (x := 2) (pc' := 39) dX12_feed_38 (by decide) rfl ?_
    refine z_iload_n (pc' := 40) dX12_feed_39 rfl rfl ?_
    obtain ⟨h1, h2, h⟩ := h
    obtain ⟨G4, hG⟩ : ∃ z, z = zsi G3 (zrv G3 q0 9) (2 : Int32).toNatClampNeg x3 := ⟨_, rfl⟩
    have h := h _ hG
    refine z_iast (pc' := 41) dX12_feed_40 rfl h1 h2  ?_
    refine z_st hG ?_
    refine z_aload_n (pc' := 42) dX12_feed_41 rfl rfl ?_
    obtain ⟨h1, h⟩ := h
    refine z_getR (ci := 13) (kf := 9) (pc' := 45) dX12_feed_42 kX12_17 (Or.inl rfl) (by decide) (by decide) rfl rfl h1 ?_
    refine z_iconst (x := 3) (pc' := 46) dX12_feed_45 (by decide) rfl ?_
    refine z_iload (pc' := 48) dX12_feed_46 rfl rfl ?_
    obtain ⟨h1, h2, h⟩ := h
    obtain ⟨G5, hG⟩ : ∃ z, z = zsi G4 (zrv G4 q0 9) (3 : Int32).toNatClampNeg x4 := ⟨_, rfl⟩
    have h := h _ hG
    refine z_iast (pc' := 49) dX12_feed_48 rfl h1 h2  ?_
    refine z_st hG ?_
    refine z_aload_n (pc' := 50) dX12_feed_49 rfl rfl ?_
    obtain ⟨h1, h⟩ := h
    refine z_getR (ci := 13) (kf := 9) (pc' := 53) dX12_feed_50 kX12_17 (Or.inl rfl) (by decide) (by decide) rfl rfl h1 ?_
    refine z_iconst (x := 4) (pc' := 54) dX12_feed_53 (by decide) rfl ?_
    refine z_iload (pc' := 56) dX12_feed_54 rfl rfl ?_
    obtain ⟨h1, h2, h⟩ := h
    obtain ⟨G6, hG⟩ : ∃ z, z = zsi G5 (zrv G5 q0 9) (4 : Int32).toNatClampNeg x5 := ⟨_, rfl⟩
    have h := h _ hG
    refine z_iast (pc' := 57) dX12_feed_56 rfl h1 h2  ?_
    refine z_st hG ?_
    refine z_iconst (x := 0) (pc' := 58) dX12_feed_57 (by decide) rfl ?_
    refine z_istore (pc' := 60) dX12_feed_58 (by decide) rfl ?_
    exact z_dr (ls' := [some (.ref q0), none, none, none, none, none, some (.int 0)]) ⟨rfl, rfl, trivial⟩ h
  · have h := h.2 hc
    refine z_iconst (x := (-1)) (pc' := 19) dX12_feed_18 (by decide) rfl ?_
    exact z_iret dX12_feed_19 rfl h
def wp_X12_feed_60 (E : ZE) (l : Launch) (d b : Nat) (G0 : ZG) (Q : ZQ) (k : Nat) (q0 : Nat) (x6 : Int32) (G : ZG) : Prop :=
  ((20 ≤ x6 →
    zob G q0 13 ∧
    zob G q0 13 ∧
    ∀ G1, G1 = zsi G q0 3 ((ziv G q0 3) + 20) →
    zob G1 q0 13 ∧
    Q (.inl (some (.int (ziv G1 q0 3)))) G1) ∧
  (¬ (20 ≤ x6) →
    zob G q0 13 ∧
    zob G q0 13 ∧
    zob G q0 13 ∧
    (zar G (zrv G q0 9) 0 ∨ zrd G (zrv G q0 9) .int) ∧ vp_in (x6 / 4) (zln G (zrv G q0 9)) ∧
    zar G (zrv G q0 2) 1 ∧ vp_in ((ziv G q0 3) + x6) (zln G (zrv G q0 2)) ∧
    ∀ G2, G2 = zsi G (zrv G q0 2) ((ziv G q0 3) + x6).toNatClampNeg ((((ziv G (zrv G q0 9) (x6 / 4).toNatClampNeg) >>> ((24 - (8 * (x6 - x6 / 4 * 4))) &&& 31)).toInt8.toInt32).toInt8.toInt32) →
    zW E l mX12_feed d b G0 Q k 60 [some (.ref q0), none, none, none, none, none, some (.int (x6 + 1))] [] G2))
theorem wpt_X12_feed_60 {E : ZE} {l : Launch} {d b : Nat} {G0 : ZG} {Q : ZQ} {k : Nat} {q0 : Nat} {x6 : Int32} {G : ZG} (h : wp_X12_feed_60 E l d b G0 Q k q0 x6 G) : zW E l mX12_feed d b G0 Q k 60 [some (.ref q0), none, none, none, none, none, some (.int x6)] [] G := by
  unfold wp_X12_feed_60 at h
  refine z_iload (pc' := 62) dX12_feed_60 rfl rfl ?_
  refine z_bipush (x := 20) (pc' := 64) dX12_feed_62 (by decide) rfl ?_
  refine z_icmp_ge (pt := 106) (pc' := 67) dX12_feed_64 (by decide) rfl (fun hc => ?_) (fun hc => ?_)
  · have h := h.1 hc
    refine z_aload_n (pc' := 107) dX12_feed_106 rfl rfl ?_
    refine z_dup (pc' := 108) dX12_feed_107 rfl rfl ?_
    obtain ⟨h1, h⟩ := h
    refine z_getI (ci := 13) (kf := 3) (pc' := 111) dX12_feed_108 kX12_181 (Or.inl rfl) (by decide) (by decide) rfl rfl h1 ?_
    refine z_bipush (x := 20) (pc' := 113) dX12_feed_111 (by decide) rfl ?_
    refine z_iadd (pc' := 114) dX12_feed_113 rfl rfl ?_
    obtain ⟨h1, h⟩ := h
    obtain ⟨G1, hG⟩ : ∃ z, z = zsi G q0 3 ((ziv G q0 3) + 20) := ⟨_, rfl⟩
    have h := h _ hG
    refine z_putI (ci := 13) (kf := 3) (pc' := 117) dX12_feed_114 kX12_181 (Or.inl rfl) (by decide) (by decide) rfl (Or.inl rfl) rfl h1 (zok_int _) ?_
    refine z_st hG ?_
    refine z_aload_n (pc' := 118) dX12_feed_117 rfl rfl ?_
    obtain ⟨h1, h⟩ := h
    refine z_getI (ci := 13) (kf := 3) (pc' := 121) dX12_feed_118 kX12_181 (Or.inl rfl) (by decide) (by decide) rfl rfl h1 ?_
    exact z_iret dX12_feed_121 rfl h
  · have h := h.2 hc
    refine z_aload_n (pc' := 68) dX12_feed_67 rfl rfl ?_
    obtain ⟨h1, h⟩ := h
    refine z_getR (ci := 13) (kf := 2) (pc' := 71) dX12_feed_68 kX12_9 (Or.inl rfl) (by decide) (by decide) rfl rfl h1 ?_
    refine z_aload_n (pc' := 72) dX12_feed_71 rfl rfl ?_
    obtain ⟨h1, h⟩ := h
    refine z_getI (ci := 13) (kf := 3) (pc' := 75) dX12_feed_72 kX12_181 (Or.inl rfl) (by decide) (by decide) rfl rfl h1 ?_
    refine z_iload (pc' := 77) dX12_feed_75 rfl rfl ?_
    refine z_iadd (pc' := 78) dX12_feed_77 rfl rfl ?_
    refine z_aload_n (pc' := 79) dX12_feed_78 rfl rfl ?_
    obtain ⟨h1, h⟩ := h
    refine z_getR (ci := 13) (kf := 9) (pc' := 82) dX12_feed_79 kX12_17 (Or.inl rfl) (by decide) (by decide) rfl rfl h1 ?_
    refine z_iload (pc' := 84) dX12_feed_82 rfl rfl ?_
    refine z_iconst (x := 4) (pc' := 85) dX12_feed_84 (by decide) rfl ?_
    refine z_idiv (pc' := 86) dX12_feed_85 (by decide) rfl rfl ?_
    obtain ⟨h1, h2, h⟩ := h
    refine z_iald (pc' := 87) dX12_feed_86 rfl h1 h2 ?_
    refine z_bipush (x := 24) (pc' := 89) dX12_feed_87 (by decide) rfl ?_
    refine z_bipush (x := 8) (pc' := 91) dX12_feed_89 (by decide) rfl ?_
    refine z_iload (pc' := 93) dX12_feed_91 rfl rfl ?_
    refine z_iconst (x := 4) (pc' := 94) dX12_feed_93 (by decide) rfl ?_
    refine z_irem (pc' := 95) dX12_feed_94 (by decide) rfl rfl ?_
    refine z_imul (pc' := 96) dX12_feed_95 rfl rfl ?_
    refine z_isub (pc' := 97) dX12_feed_96 rfl rfl ?_
    refine z_ishr (pc' := 98) dX12_feed_97 rfl rfl ?_
    refine z_i2b (pc' := 99) dX12_feed_98 rfl rfl ?_
    obtain ⟨h1, h2, h⟩ := h
    obtain ⟨G2, hG⟩ : ∃ z, z = zsi G (zrv G q0 2) ((ziv G q0 3) + x6).toNatClampNeg ((((ziv G (zrv G q0 9) (x6 / 4).toNatClampNeg) >>> ((24 - (8 * (x6 - x6 / 4 * 4))) &&& 31)).toInt8.toInt32).toInt8.toInt32) := ⟨_, rfl⟩
    have h := h _ hG
    refine z_bast (pc' := 100) dX12_feed_99 rfl h1 h2  ?_
    refine z_st hG ?_
    refine z_iinc (y := x6 + 1) (pc' := 103) dX12_feed_100 rfl (zinc_1 _) (by decide) rfl ?_
    refine z_goto (pc' := 60) dX12_feed_103 (by decide) ?_
    exact z_dr (ls' := [some (.ref q0), none, none, none, none, none, some (.int (x6 + 1))]) ⟨rfl, rfl, trivial⟩ h
def wp_X12_figure_0 (E : ZE) (l : Launch) (d b : Nat) (G0 : ZG) (Q : ZQ) (k : Nat) (q0 : Nat) (x1 : Int32) (G : ZG) : Prop :=
  zob G q0 13 ∧
  ∀ G1, G1 = zsi G q0 0 0 →
  zob G1 q0 13 ∧
  xcI E l mX12_nobody d [.ref q0, .int x1] G1 k (fun X G9 => Q (.inr X) G9) (fun y2 G3 k4 =>
  zob G3 q0 13 ∧
  xcI E l mX12_throwsIf d [.ref q0, .int y2, .int 1] G3 k4 (fun X G9 => Q (.inr X) G9) (fun y5 G6 k7 =>
  ((y5 = 0 →
    zob G6 q0 13 ∧
    zar G6 (zrv G6 q0 33) 2 ∧ vp_in x1 (zln G6 (zrv G6 q0 33)) ∧
    ((¬ (ziv G6 (zrv G6 q0 33) x1.toNatClampNeg) = 0 →
      zW E l mX12_figure d b G0 Q k7 35 [some (.ref q0), some (.int x1), some (.int 0), some (.int 0), none] [] G6) ∧
    (¬ (¬ (ziv G6 (zrv G6 q0 33) x1.toNatClampNeg) = 0) →
      Q (.inl (some (.int (-1)))) G6))) ∧
  (¬ (y5 = 0) →
    Q (.inl (some (.int 0))) G6))))
theorem wpt_X12_figure_0 {E : ZE} {l : Launch} {d b : Nat} {G0 : ZG} {Q : ZQ} {k : Nat} {q0 : Nat} {x1 : Int32} {G : ZG} (h : wp_X12_figure_0 E l d b G0 Q k q0 x1 G) : zW E l mX12_figure d b G0 Q k 0 [some (.ref q0), some (.int x1), none, none, none] [] G := by
  unfold wp_X12_figure_0 at h
  refine z_aload_n (pc' := 1) dX12_figure_0 rfl rfl ?_
  refine z_iconst (x := 0) (pc' := 2) dX12_figure_1 (by decide) rfl ?_
  obtain ⟨h1, h⟩ := h
  obtain ⟨G1, hG⟩ : ∃ z, z = zsi G q0 0 0 := ⟨_, rfl⟩
  have h := h _ hG
  refine z_putI (ci := 13) (kf := 0) (pc' := 5) dX12_figure_2 kX12_178 (Or.inl rfl) (by decide) (by decide) rfl (Or.inl rfl) rfl h1 (zok_int _) ?_
  refine z_st hG ?_
  refine z_aload_n (pc' := 6) dX12_figure_5 rfl rfl ?_
  refine z_aload_n (pc' := 7) dX12_figure_6 rfl rfl ?_
  refine z_iload_n (pc' := 8) dX12_figure_7 rfl rfl ?_
  obtain ⟨h1, h⟩ := h
  obtain ⟨d1, b1, Qz, hm, hdd, hb, hkx, hk⟩ := h
  refine z_callV (Y := mX12_nobody) (n := 1) (as := [.int x1]) (st := [.ref q0]) (pc' := 11) (ci := 13) (q := q0) hm dX12_figure_8 kX12_385 vX12_nobody rfl rfl (by decide) rfl h1 hdd hb (Nat.le_of_ble_eq_true rfl) (fun r G3 hz => ?_) hkx
  obtain ⟨y2, rfl, h⟩ := hk r G3 hz
  refine z_iconst (x := 1) (pc' := 12) dX12_figure_11 (by decide) rfl ?_
  obtain ⟨h1, h⟩ := h
  obtain ⟨d1, b1, Qz, hm, hdd, hb, hkx, hk⟩ := h
  refine z_callV (Y := mX12_throwsIf) (n := 2) (as := [.int y2, .int 1]) (st := []) (pc' := 15) (ci := 13) (q := q0) hm dX12_figure_12 kX12_321 vX12_throwsIf rfl rfl (by decide) rfl h1 hdd hb (Nat.le_of_ble_eq_true rfl) (fun r G6 hz => ?_) hkx
  obtain ⟨y5, rfl, h⟩ := hk r G6 hz
  refine z_if_eq (pt := 20) (pc' := 18) dX12_figure_15 (by decide) rfl (fun hc => ?_) (fun hc => ?_)
  · have h := h.1 hc
    refine z_aload_n (pc' := 21) dX12_figure_20 rfl rfl ?_
    obtain ⟨h1, h⟩ := h
    refine z_getR (ci := 13) (kf := 33) (pc' := 24) dX12_figure_21 kX12_67 (Or.inl rfl) (by decide) (by decide) rfl rfl h1 ?_
    refine z_iload_n (pc' := 25) dX12_figure_24 rfl rfl ?_
    obtain ⟨h1, h2, h⟩ := h
    refine z_zald (pc' := 26) dX12_figure_25 rfl h1 h2 ?_
    refine z_if_ne (pt := 31) (pc' := 29) dX12_figure_26 (by decide) rfl (fun hc => ?_) (fun hc => ?_)
    · have h := h.1 hc
      refine z_iconst (x := 0) (pc' := 32) dX12_figure_31 (by decide) rfl ?_
      refine z_istore_n (pc' := 33) dX12_figure_32 (by decide) rfl ?_
      refine z_iconst (x := 0) (pc' := 34) dX12_figure_33 (by decide) rfl ?_
      refine z_istore_n (pc' := 35) dX12_figure_34 (by decide) rfl ?_
      exact z_dr (ls' := [some (.ref q0), some (.int x1), some (.int 0), some (.int 0), none]) ⟨rfl, rfl, rfl, rfl, trivial⟩ h
    · have h := h.2 hc
      refine z_iconst (x := (-1)) (pc' := 30) dX12_figure_29 (by decide) rfl ?_
      exact z_iret dX12_figure_30 rfl h
  · have h := h.2 hc
    refine z_iconst (x := 0) (pc' := 19) dX12_figure_18 (by decide) rfl ?_
    exact z_iret dX12_figure_19 rfl h
def wp_X12_figure_35 (E : ZE) (l : Launch) (d b : Nat) (G0 : ZG) (Q : ZQ) (k : Nat) (q0 : Nat) (x1 : Int32) (x2 : Int32) (x3 : Int32) (G : ZG) : Prop :=
  ((24 ≤ x3 →
    Q (.inl (some (.int (x2 - x2 / 10 * 10)))) G) ∧
  (¬ (24 ≤ x3) →
    zob G q0 13 ∧
    (zar G (zrv G q0 32) 0 ∨ zrd G (zrv G q0 32) .int) ∧ vp_in ((24 * x1) + x3) (zln G (zrv G q0 32)) ∧
    ((¬ (ziv G (zrv G q0 32) ((24 * x1) + x3).toNatClampNeg) = 60 →
      zW E l mX12_figure d b G0 Q k 74 [some (.ref q0), some (.int x1), none, some (.int x3), none] [.int (((ziv G (zrv G q0 32) ((24 * x1) + x3).toNatClampNeg) - 65) + 10), .int x2] G) ∧
    (¬ (¬ (ziv G (zrv G q0 32) ((24 * x1) + x3).toNatClampNeg) = 60) →
      zW E l mX12_figure d b G0 Q k 74 [some (.ref q0), some (.int x1), none, some (.int x3), none] [.int 0, .int x2] G))))
theorem wpt_X12_figure_35 {E : ZE} {l : Launch} {d b : Nat} {G0 : ZG} {Q : ZQ} {k : Nat} {q0 : Nat} {x1 : Int32} {x2 : Int32} {x3 : Int32} {G : ZG} (h : wp_X12_figure_35 E l d b G0 Q k q0 x1 x2 x3 G) : zW E l mX12_figure d b G0 Q k 35 [some (.ref q0), some (.int x1), some (.int x2), some (.int x3), none] [] G := by
  unfold wp_X12_figure_35 at h
  refine z_iload_n (pc' := 36) dX12_figure_35 rfl rfl ?_
  refine z_bipush (x := 24) (pc' := 38) dX12_figure_36 (by decide) rfl ?_
  refine z_icmp_ge (pt := 106) (pc' := 41) dX12_figure_38 (by decide) rfl (fun hc => ?_) (fun hc => ?_)
  · have h := h.1 hc
    refine z_iload_n (pc' := 107) dX12_figure_106 rfl rfl ?_
    refine z_bipush (x := 10) (pc' := 109) dX12_figure_107 (by decide) rfl ?_
    refine z_irem (pc' := 110) dX12_figure_109 (by decide) rfl rfl ?_
    exact z_iret dX12_figure_110 rfl h
  · have h := h.2 hc
    refine z_aload_n (pc' := 42) dX12_figure_41 rfl rfl ?_
    obtain ⟨h1, h⟩ := h
    refine z_getR (ci := 13) (kf := 32) (pc' := 45) dX12_figure_42 kX12_64 (Or.inl rfl) (by decide) (by decide) rfl rfl h1 ?_
    refine z_bipush (x := 24) (pc' := 47) dX12_figure_45 (by decide) rfl ?_
    refine z_iload_n (pc' := 48) dX12_figure_47 rfl rfl ?_
    refine z_imul (pc' := 49) dX12_figure_48 rfl rfl ?_
    refine z_iload_n (pc' := 50) dX12_figure_49 rfl rfl ?_
    refine z_iadd (pc' := 51) dX12_figure_50 rfl rfl ?_
    obtain ⟨h1, h2, h⟩ := h
    refine z_iald (pc' := 52) dX12_figure_51 rfl h1 h2 ?_
    refine z_istore (pc' := 54) dX12_figure_52 (by decide) rfl ?_
    refine z_iload_n (pc' := 55) dX12_figure_54 rfl rfl ?_
    refine z_iload (pc' := 57) dX12_figure_55 rfl rfl ?_
    refine z_bipush (x := 60) (pc' := 59) dX12_figure_57 (by decide) rfl ?_
    refine z_icmp_ne (pt := 66) (pc' := 62) dX12_figure_59 (by decide) rfl (fun hc => ?_) (fun hc => ?_)
    · have h := h.1 hc
      refine z_iload (pc' := 68) dX12_figure_66 rfl rfl ?_
      refine z_bipush (x := 65) (pc' := 70) dX12_figure_68 (by decide) rfl ?_
      refine z_isub (pc' := 71) dX12_figure_70 rfl rfl ?_
      refine z_bipush (x := 10) (pc' := 73) dX12_figure_71 (by decide) rfl ?_
      refine z_iadd (pc' := 74) dX12_figure_73 rfl rfl ?_
      exact z_dr (ls' := [some (.ref q0), some (.int x1), none, some (.int x3), none]) ⟨rfl, rfl, rfl, trivial⟩ h
    · have h := h.2 hc
      refine z_iconst (x := 0) (pc' := 63) dX12_figure_62 (by decide) rfl ?_
      refine z_goto (pc' := 74) dX12_figure_63 (by decide) ?_
      exact z_dr (ls' := [some (.ref q0), some (.int x1), none, some (.int x3), none]) ⟨rfl, rfl, rfl, trivial⟩ h
def wp_X12_figure_74 (E : ZE) (l : Launch) (d b : Nat) (G0 : ZG) (Q : ZQ) (k : Nat) (q0 : Nat) (x1 : Int32) (x3 : Int32) (s0 : Int32) (s1 : Int32) (G : ZG) : Prop :=
  ((¬ (x3 - x3 / 3 * 3) = 0 →
    ((¬ (x3 - x3 / 3 * 3) = 1 →
      zW E l mX12_figure d b G0 Q k 35 [some (.ref q0), some (.int x1), some (.int (s1 + (s0 * 1))), some (.int (x3 + 1)), none] [] G) ∧
    (¬ (¬ (x3 - x3 / 3 * 3) = 1) →
      zW E l mX12_figure d b G0 Q k 35 [some (.ref q0), some (.int x1), some (.int (s1 + (s0 * 3))), some (.int (x3 + 1)), none] [] G))) ∧
  (¬ (¬ (x3 - x3 / 3 * 3) = 0) →
    zW E l mX12_figure d b G0 Q k 35 [some (.ref q0), some (.int x1), some (.int (s1 + (s0 * 7))), some (.int (x3 + 1)), none] [] G))
theorem wpt_X12_figure_74 {E : ZE} {l : Launch} {d b : Nat} {G0 : ZG} {Q : ZQ} {k : Nat} {q0 : Nat} {x1 : Int32} {x3 : Int32} {s0 : Int32} {s1 : Int32} {G : ZG} (h : wp_X12_figure_74 E l d b G0 Q k q0 x1 x3 s0 s1 G) : zW E l mX12_figure d b G0 Q k 74 [some (.ref q0), some (.int x1), none, some (.int x3), none] [.int s0, .int s1] G := by
  unfold wp_X12_figure_74 at h
  refine z_iload_n (pc' := 75) dX12_figure_74 rfl rfl ?_
  refine z_iconst (x := 3) (pc' := 76) dX12_figure_75 (by decide) rfl ?_
  refine z_irem (pc' := 77) dX12_figure_76 (by decide) rfl rfl ?_
  refine z_if_ne (pt := 85) (pc' := 80) dX12_figure_77 (by decide) rfl (fun hc => ?_) (fun hc => ?_)
  · have h := h.1 hc
    refine z_iload_n (pc' := 86) dX12_figure_85 rfl rfl ?_
    refine z_iconst (x := 3) (pc' := 87) dX12_figure_86 (by decide) rfl ?_
    refine z_irem (pc' := 88) dX12_figure_87 (by decide) rfl rfl ?_
    refine z_iconst (x := 1) (pc' := 89) dX12_figure_88 (by decide) rfl ?_
    refine z_icmp_ne (pt := 96) (pc' := 92) dX12_figure_89 (by decide) rfl (fun hc => ?_) (fun hc => ?_)
    · have h := h.1 hc
      refine z_iconst (x := 1) (pc' := 97) dX12_figure_96 (by decide) rfl ?_
      refine z_imul (pc' := 98) dX12_figure_97 rfl rfl ?_
      refine z_iadd (pc' := 99) dX12_figure_98 rfl rfl ?_
      refine z_istore_n (pc' := 100) dX12_figure_99 (by decide) rfl ?_
      refine z_iinc (y := x3 + 1) (pc' := 103) dX12_figure_100 rfl (zinc_1 _) (by decide) rfl ?_
      refine z_goto (pc' := 35) dX12_figure_103 (by decide) ?_
      exact z_dr (ls' := [some (.ref q0), some (.int x1), some (.int (s1 + (s0 * 1))), some (.int (x3 + 1)), none]) ⟨rfl, rfl, rfl, rfl, trivial⟩ h
    · have h := h.2 hc
      refine z_iconst (x := 3) (pc' := 93) dX12_figure_92 (by decide) rfl ?_
      refine z_goto (pc' := 97) dX12_figure_93 (by decide) ?_
      refine z_imul (pc' := 98) dX12_figure_97 rfl rfl ?_
      refine z_iadd (pc' := 99) dX12_figure_98 rfl rfl ?_
      refine z_istore_n (pc' := 100) dX12_figure_99 (by decide) rfl ?_
      refine z_iinc (y := x3 + 1) (pc' := 103) dX12_figure_100 rfl (zinc_1 _) (by decide) rfl ?_
      refine z_goto (pc' := 35) dX12_figure_103 (by decide) ?_
      exact z_dr (ls' := [some (.ref q0), some (.int x1), some (.int (s1 + (s0 * 3))), some (.int (x3 + 1)), none]) ⟨rfl, rfl, rfl, rfl, trivial⟩ h
  · have h := h.2 hc
    refine z_bipush (x := 7) (pc' := 82) dX12_figure_80 (by decide) rfl ?_
    refine z_goto (pc' := 97) dX12_figure_82 (by decide) ?_
    refine z_imul (pc' := 98) dX12_figure_97 rfl rfl ?_
    refine z_iadd (pc' := 99) dX12_figure_98 rfl rfl ?_
    refine z_istore_n (pc' := 100) dX12_figure_99 (by decide) rfl ?_
    refine z_iinc (y := x3 + 1) (pc' := 103) dX12_figure_100 rfl (zinc_1 _) (by decide) rfl ?_
    refine z_goto (pc' := 35) dX12_figure_103 (by decide) ?_
    exact z_dr (ls' := [some (.ref q0), some (.int x1), some (.int (s1 + (s0 * 7))), some (.int (x3 + 1)), none]) ⟨rfl, rfl, rfl, rfl, trivial⟩ h
def wp_X12_gets_0 (E : ZE) (l : Launch) (d b : Nat) (G0 : ZG) (Q : ZQ) (k : Nat) (q0 : Nat) (x1 : Int32) (G : ZG) : Prop :=
  zob G q0 13 ∧
  xcV E l mX12_sets d [.ref q0, .int x1, .int 0, .int 7] G k (fun X G9 => Q (.inr X) G9) (fun G1 k2 =>
  zob G1 q0 13 ∧
  zob G1 q0 13 ∧
  xcV E l mX12_sets d [.ref q0, .int x1, .int 3, .int (ziv G1 q0 1)] G1 k2 (fun X G9 => Q (.inr X) G9) (fun G3 k4 =>
  zob G3 q0 13 ∧
  (zar G3 (zrv G3 q0 64) 0 ∨ zrd G3 (zrv G3 q0 64) .int) ∧ vp_in x1 (zln G3 (zrv G3 q0 64)) ∧
  (((ziv G3 (zrv G3 q0 64) x1.toNatClampNeg) < 0 →
    Q (.inl none) G3) ∧
  (¬ ((ziv G3 (zrv G3 q0 64) x1.toNatClampNeg) < 0) →
    zob G3 q0 13 ∧
    zob G3 q0 13 ∧
    (zar G3 (zrv G3 q0 56) 0 ∨ zrd G3 (zrv G3 q0 56) .int) ∧ vp_in x1 (zln G3 (zrv G3 q0 56)) ∧
    zob G3 q0 13 ∧
    (zar G3 (zrv G3 q0 64) 0 ∨ zrd G3 (zrv G3 q0 64) .int) ∧ vp_in x1 (zln G3 (zrv G3 q0 64)) ∧
    (((ziv G3 (zrv G3 q0 64) x1.toNatClampNeg) < ((ziv G3 q0 1) - (ziv G3 (zrv G3 q0 56) x1.toNatClampNeg)) →
      zob G3 q0 13 ∧
      xcV E l mX12_sets d [.ref q0, .int x1, .int 6, .int 1] G3 k4 (fun X G9 => Q (.inr X) G9) (fun G5 k6 =>
      zob G5 q0 13 ∧
      zob G5 q0 13 ∧
      (zar G5 (zrv G5 q0 60) 0 ∨ zrd G5 (zrv G5 q0 60) .int) ∧ vp_in x1 (zln G5 (zrv G5 q0 60)) ∧
      zob G5 q0 13 ∧
      ∀ G7, G7 = zsi G5 q0 73 ((ziv G5 q0 73) + (ziv G5 (zrv G5 q0 60) x1.toNatClampNeg)) →
      Q (.inl none) G7)) ∧
    (¬ ((ziv G3 (zrv G3 q0 64) x1.toNatClampNeg) < ((ziv G3 q0 1) - (ziv G3 (zrv G3 q0 56) x1.toNatClampNeg))) →
      Q (.inl none) G3))))))
theorem wpt_X12_gets_0 {E : ZE} {l : Launch} {d b : Nat} {G0 : ZG} {Q : ZQ} {k : Nat} {q0 : Nat} {x1 : Int32} {G : ZG} (h : wp_X12_gets_0 E l d b G0 Q k q0 x1 G) : zW E l mX12_gets d b G0 Q k 0 [some (.ref q0), some (.int x1)] [] G := by
  unfold wp_X12_gets_0 at h
  refine z_aload_n (pc' := 1) dX12_gets_0 rfl rfl ?_
  refine z_iload_n (pc' := 2) dX12_gets_1 rfl rfl ?_
  refine z_iconst (x := 0) (pc' := 3) dX12_gets_2 (by decide) rfl ?_
  refine z_bipush (x := 7) (pc' := 5) dX12_gets_3 (by decide) rfl ?_
  obtain ⟨h1, h⟩ := h
  obtain ⟨d1, b1, Qz, hm, hdd, hb, hkx, hk⟩ := h
  refine z_callV (Y := mX12_sets) (n := 3) (as := [.int x1, .int 0, .int 7]) (st := []) (pc' := 8) (ci := 13) (q := q0) hm dX12_gets_5 kX12_425 vX12_sets rfl rfl (by decide) rfl h1 hdd hb (Nat.le_of_ble_eq_true rfl) (fun r G1 hz => ?_) hkx
  obtain ⟨rfl, h⟩ := hk r G1 hz
  refine z_aload_n (pc' := 9) dX12_gets_8 rfl rfl ?_
  refine z_iload_n (pc' := 10) dX12_gets_9 rfl rfl ?_
  refine z_iconst (x := 3) (pc' := 11) dX12_gets_10 (by decide) rfl ?_
  refine z_aload_n (pc' := 12) dX12_gets_11 rfl rfl ?_
  obtain ⟨h1, h⟩ := h
  refine z_getI (ci := 13) (kf := 1) (pc' := 15) dX12_gets_12 kX12_314 (Or.inl rfl) (by decide) (by decide) rfl rfl h1 ?_
  obtain ⟨h1, h⟩ := h
  obtain ⟨d1, b1, Qz, hm, hdd, hb, hkx, hk⟩ := h
  refine z_callV (Y := mX12_sets) (n := 3) (as := [.int x1, .int 3, .int (ziv G1 q0 1)]) (st := []) (pc' := 18) (ci := 13) (q := q0) hm dX12_gets_15 kX12_425 vX12_sets rfl rfl (by decide) rfl h1 hdd hb (Nat.le_of_ble_eq_true rfl) (fun r G3 hz => ?_) hkx
  obtain ⟨rfl, h⟩ := hk r G3 hz
  refine z_aload_n (pc' := 19) dX12_gets_18 rfl rfl ?_
  obtain ⟨h1, h⟩ := h
  refine z_getR (ci := 13) (kf := 64) (pc' := 22) dX12_gets_19 kX12_145 (Or.inl rfl) (by decide) (by decide) rfl rfl h1 ?_
  refine z_iload_n (pc' := 23) dX12_gets_22 rfl rfl ?_
  obtain ⟨h1, h2, h⟩ := h
  refine z_iald (pc' := 24) dX12_gets_23 rfl h1 h2 ?_
  refine z_if_lt (pt := 47) (pc' := 27) dX12_gets_24 (by decide) rfl (fun hc => ?_) (fun hc => ?_)
  · have h := h.1 hc
    exact z_vret dX12_gets_47 rfl h
  · have h := h.2 hc
    refine z_aload_n (pc' := 28) dX12_gets_27 rfl rfl ?_
    obtain ⟨h1, h⟩ := h
    refine z_getI (ci := 13) (kf := 1) (pc' := 31) dX12_gets_28 kX12_314 (Or.inl rfl) (by decide) (by decide) rfl rfl h1 ?_
    refine z_aload_n (pc' := 32) dX12_gets_31 rfl rfl ?_
    obtain ⟨h1, h⟩ := h
    refine z_getR (ci := 13) (kf := 56) (pc' := 35) dX12_gets_32 kX12_121 (Or.inl rfl) (by decide) (by decide) rfl rfl h1 ?_
    refine z_iload_n (pc' := 36) dX12_gets_35 rfl rfl ?_
    obtain ⟨h1, h2, h⟩ := h
    refine z_iald (pc' := 37) dX12_gets_36 rfl h1 h2 ?_
    refine z_isub (pc' := 38) dX12_gets_37 rfl rfl ?_
    refine z_aload_n (pc' := 39) dX12_gets_38 rfl rfl ?_
    obtain ⟨h1, h⟩ := h
    refine z_getR (ci := 13) (kf := 64) (pc' := 42) dX12_gets_39 kX12_145 (Or.inl rfl) (by decide) (by decide) rfl rfl h1 ?_
    refine z_iload_n (pc' := 43) dX12_gets_42 rfl rfl ?_
    obtain ⟨h1, h2, h⟩ := h
    refine z_iald (pc' := 44) dX12_gets_43 rfl h1 h2 ?_
    refine z_icmp_gt (pt := 48) (pc' := 47) dX12_gets_44 (by decide) rfl (fun hc => ?_) (fun hc => ?_)
    · have h := h.1 hc
      refine z_aload_n (pc' := 49) dX12_gets_48 rfl rfl ?_
      refine z_iload_n (pc' := 50) dX12_gets_49 rfl rfl ?_
      refine z_bipush (x := 6) (pc' := 52) dX12_gets_50 (by decide) rfl ?_
      refine z_iconst (x := 1) (pc' := 53) dX12_gets_52 (by decide) rfl ?_
      obtain ⟨h1, h⟩ := h
      obtain ⟨d1, b1, Qz, hm, hdd, hb, hkx, hk⟩ := h
      refine z_callV (Y := mX12_sets) (n := 3) (as := [.int x1, .int 6, .int 1]) (st := []) (pc' := 56) (ci := 13) (q := q0) hm dX12_gets_53 kX12_425 vX12_sets rfl rfl (by decide) rfl h1 hdd hb (Nat.le_of_ble_eq_true rfl) (fun r G5 hz => ?_) hkx
      obtain ⟨rfl, h⟩ := hk r G5 hz
      refine z_aload_n (pc' := 57) dX12_gets_56 rfl rfl ?_
      refine z_dup (pc' := 58) dX12_gets_57 rfl rfl ?_
      obtain ⟨h1, h⟩ := h
      refine z_getI (ci := 13) (kf := 73) (pc' := 61) dX12_gets_58 kX12_456 (Or.inl rfl) (by decide) (by decide) rfl rfl h1 ?_
      refine z_aload_n (pc' := 62) dX12_gets_61 rfl rfl ?_
      obtain ⟨h1, h⟩ := h
      refine z_getR (ci := 13) (kf := 60) (pc' := 65) dX12_gets_62 kX12_133 (Or.inl rfl) (by decide) (by decide) rfl rfl h1 ?_
      refine z_iload_n (pc' := 66) dX12_gets_65 rfl rfl ?_
      obtain ⟨h1, h2, h⟩ := h
      refine z_iald (pc' := 67) dX12_gets_66 rfl h1 h2 ?_
      refine z_iadd (pc' := 68) dX12_gets_67 rfl rfl ?_
      obtain ⟨h1, h⟩ := h
      obtain ⟨G7, hG⟩ : ∃ z, z = zsi G5 q0 73 ((ziv G5 q0 73) + (ziv G5 (zrv G5 q0 60) x1.toNatClampNeg)) := ⟨_, rfl⟩
      have h := h _ hG
      refine z_putI (ci := 13) (kf := 73) (pc' := 71) dX12_gets_68 kX12_456 (Or.inl rfl) (by decide) (by decide) rfl (Or.inl rfl) rfl h1 (zok_int _) ?_
      refine z_st hG ?_
      exact z_vret dX12_gets_71 rfl h
    · have h := h.2 hc
      exact z_vret dX12_gets_47 rfl h
def wp_X12_give_0 (E : ZE) (l : Launch) (d b : Nat) (G0 : ZG) (Q : ZQ) (k : Nat) (q0 : Nat) (x1 : Int32) (x2 : Int32) (G : ZG) : Prop :=
  zob G q0 13 ∧
  ∀ G1, G1 = zsi G q0 0 0 →
  zob G1 q0 13 ∧
  xcI E l mX12_noAsking d [.ref q0, .int x1] G1 k (fun X G9 => Q (.inr X) G9) (fun y2 G3 k4 =>
  zob G3 q0 13 ∧
  xcI E l mX12_throwsIf d [.ref q0, .int y2, .int 1] G3 k4 (fun X G9 => Q (.inr X) G9) (fun y5 G6 k7 =>
  ((¬ y5 = 0 →
    Q (.inl (some (.int 0))) G6) ∧
  (¬ (¬ y5 = 0) →
    xcI E l mX12_in d [.int x2, .int 0, .int 255] G6 k7 (fun X G9 => Q (.inr X) G9) (fun y8 G9 k10 =>
    ((¬ y8 = 0 →
      zW E l mX12_give d b G0 Q k10 35 [some (.ref q0), some (.int x1), some (.int x2)] [.int 0, .ref q0] G9) ∧
    (¬ (¬ y8 = 0) →
      zW E l mX12_give d b G0 Q k10 35 [some (.ref q0), some (.int x1), some (.int x2)] [.int 1, .ref q0] G9)))))))
theorem wpt_X12_give_0 {E : ZE} {l : Launch} {d b : Nat} {G0 : ZG} {Q : ZQ} {k : Nat} {q0 : Nat} {x1 : Int32} {x2 : Int32} {G : ZG} (h : wp_X12_give_0 E l d b G0 Q k q0 x1 x2 G) : zW E l mX12_give d b G0 Q k 0 [some (.ref q0), some (.int x1), some (.int x2)] [] G := by
  unfold wp_X12_give_0 at h
  refine z_aload_n (pc' := 1) dX12_give_0 rfl rfl ?_
  refine z_iconst (x := 0) (pc' := 2) dX12_give_1 (by decide) rfl ?_
  obtain ⟨h1, h⟩ := h
  obtain ⟨G1, hG⟩ : ∃ z, z = zsi G q0 0 0 := ⟨_, rfl⟩
  have h := h _ hG
  refine z_putI (ci := 13) (kf := 0) (pc' := 5) dX12_give_2 kX12_178 (Or.inl rfl) (by decide) (by decide) rfl (Or.inl rfl) rfl h1 (zok_int _) ?_
  refine z_st hG ?_
  refine z_aload_n (pc' := 6) dX12_give_5 rfl rfl ?_
  refine z_aload_n (pc' := 7) dX12_give_6 rfl rfl ?_
  refine z_iload_n (pc' := 8) dX12_give_7 rfl rfl ?_
  obtain ⟨h1, h⟩ := h
  obtain ⟨d1, b1, Qz, hm, hdd, hb, hkx, hk⟩ := h
  refine z_callV (Y := mX12_noAsking) (n := 1) (as := [.int x1]) (st := [.ref q0]) (pc' := 11) (ci := 13) (q := q0) hm dX12_give_8 kX12_431 vX12_noAsking rfl rfl (by decide) rfl h1 hdd hb (Nat.le_of_ble_eq_true rfl) (fun r G3 hz => ?_) hkx
  obtain ⟨y2, rfl, h⟩ := hk r G3 hz
  refine z_iconst (x := 1) (pc' := 12) dX12_give_11 (by decide) rfl ?_
  obtain ⟨h1, h⟩ := h
  obtain ⟨d1, b1, Qz, hm, hdd, hb, hkx, hk⟩ := h
  refine z_callV (Y := mX12_throwsIf) (n := 2) (as := [.int y2, .int 1]) (st := []) (pc' := 15) (ci := 13) (q := q0) hm dX12_give_12 kX12_321 vX12_throwsIf rfl rfl (by decide) rfl h1 hdd hb (Nat.le_of_ble_eq_true rfl) (fun r G6 hz => ?_) hkx
  obtain ⟨y5, rfl, h⟩ := hk r G6 hz
  refine z_if_ne (pt := 65) (pc' := 18) dX12_give_15 (by decide) rfl (fun hc => ?_) (fun hc => ?_)
  · have h := h.1 hc
    refine z_iconst (x := 0) (pc' := 66) dX12_give_65 (by decide) rfl ?_
    exact z_iret dX12_give_66 rfl h
  · have h := h.2 hc
    refine z_aload_n (pc' := 19) dX12_give_18 rfl rfl ?_
    refine z_iload_n (pc' := 20) dX12_give_19 rfl rfl ?_
    refine z_iconst (x := 0) (pc' := 21) dX12_give_20 (by decide) rfl ?_
    refine z_sipush (x := 255) (pc' := 24) dX12_give_21 (by decide) rfl ?_
    obtain ⟨d1, b1, Qz, hm, hdd, hb, hkx, hk⟩ := h
    refine z_callS (Y := mX12_in) (n := 3) (as := [.int x2, .int 0, .int 255]) (st := [.ref q0]) (pc' := 27) hm dX12_give_24 kX12_317 sX12_in rfl rfl hdd hb (Nat.le_of_ble_eq_true rfl) (fun r G9 hz => ?_) hkx
    obtain ⟨y8, rfl, h⟩ := hk r G9 hz
    refine z_if_ne (pt := 34) (pc' := 30) dX12_give_27 (by decide) rfl (fun hc => ?_) (fun hc => ?_)
    · have h := h.1 hc
      refine z_iconst (x := 0) (pc' := 35) dX12_give_34 (by decide) rfl ?_
      exact z_dr (ls' := [some (.ref q0), some (.int x1), some (.int x2)]) ⟨rfl, rfl, rfl, trivial⟩ h
    · have h := h.2 hc
      refine z_iconst (x := 1) (pc' := 31) dX12_give_30 (by decide) rfl ?_
      refine z_goto (pc' := 35) dX12_give_31 (by decide) ?_
      exact z_dr (ls' := [some (.ref q0), some (.int x1), some (.int x2)]) ⟨rfl, rfl, rfl, trivial⟩ h
def wp_X12_give_35 (E : ZE) (l : Launch) (d b : Nat) (G0 : ZG) (Q : ZQ) (k : Nat) (q0 : Nat) (x1 : Int32) (x2 : Int32) (s0 : Int32) (p1 : Nat) (G : ZG) : Prop :=
  zob G p1 13 ∧
  xcI E l mX12_throwsIf d [.ref p1, .int s0, .int 2] G k (fun X G9 => Q (.inr X) G9) (fun y1 G2 k3 =>
  ((¬ y1 = 0 →
    Q (.inl (some (.int 0))) G2) ∧
  (¬ (¬ y1 = 0) →
    zob G2 q0 13 ∧
    xcI E l mX12_now d [.ref q0, .int x1, .int 0] G2 k3 (fun X G9 => Q (.inr X) G9) (fun y4 G5 k6 =>
    ((y4 = 1 →
      zW E l mX12_give d b G0 Q k6 58 [some (.ref q0), some (.int x1), some (.int x2)] [.int 0, .ref q0] G5) ∧
    (¬ (y4 = 1) →
      zW E l mX12_give d b G0 Q k6 58 [some (.ref q0), some (.int x1), some (.int x2)] [.int 1, .ref q0] G5))))))
theorem wpt_X12_give_35 {E : ZE} {l : Launch} {d b : Nat} {G0 : ZG} {Q : ZQ} {k : Nat} {q0 : Nat} {x1 : Int32} {x2 : Int32} {s0 : Int32} {p1 : Nat} {G : ZG} (h : wp_X12_give_35 E l d b G0 Q k q0 x1 x2 s0 p1 G) : zW E l mX12_give d b G0 Q k 35 [some (.ref q0), some (.int x1), some (.int x2)] [.int s0, .ref p1] G := by
  unfold wp_X12_give_35 at h
  refine z_iconst (x := 2) (pc' := 36) dX12_give_35 (by decide) rfl ?_
  obtain ⟨h1, h⟩ := h
  obtain ⟨d1, b1, Qz, hm, hdd, hb, hkx, hk⟩ := h
  refine z_callV (Y := mX12_throwsIf) (n := 2) (as := [.int s0, .int 2]) (st := []) (pc' := 39) (ci := 13) (q := p1) hm dX12_give_36 kX12_321 vX12_throwsIf rfl rfl (by decide) rfl h1 hdd hb (Nat.le_of_ble_eq_true rfl) (fun r G2 hz => ?_) hkx
  obtain ⟨y1, rfl, h⟩ := hk r G2 hz
  refine z_if_ne (pt := 65) (pc' := 42) dX12_give_39 (by decide) rfl (fun hc => ?_) (fun hc => ?_)
  · have h := h.1 hc
    refine z_iconst (x := 0) (pc' := 66) dX12_give_65 (by decide) rfl ?_
    exact z_iret dX12_give_66 rfl h
  · have h := h.2 hc
    refine z_aload_n (pc' := 43) dX12_give_42 rfl rfl ?_
    refine z_aload_n (pc' := 44) dX12_give_43 rfl rfl ?_
    refine z_iload_n (pc' := 45) dX12_give_44 rfl rfl ?_
    refine z_iconst (x := 0) (pc' := 46) dX12_give_45 (by decide) rfl ?_
    obtain ⟨h1, h⟩ := h
    obtain ⟨d1, b1, Qz, hm, hdd, hb, hkx, hk⟩ := h
    refine z_callV (Y := mX12_now) (n := 2) (as := [.int x1, .int 0]) (st := [.ref q0]) (pc' := 49) (ci := 13) (q := q0) hm dX12_give_46 kX12_434 vX12_now rfl rfl (by decide) rfl h1 hdd hb (Nat.le_of_ble_eq_true rfl) (fun r G5 hz => ?_) hkx
    obtain ⟨y4, rfl, h⟩ := hk r G5 hz
    refine z_iconst (x := 1) (pc' := 50) dX12_give_49 (by decide) rfl ?_
    refine z_icmp_eq (pt := 57) (pc' := 53) dX12_give_50 (by decide) rfl (fun hc => ?_) (fun hc => ?_)
    · have h := h.1 hc
      refine z_iconst (x := 0) (pc' := 58) dX12_give_57 (by decide) rfl ?_
      exact z_dr (ls' := [some (.ref q0), some (.int x1), some (.int x2)]) ⟨rfl, rfl, rfl, trivial⟩ h
    · have h := h.2 hc
      refine z_iconst (x := 1) (pc' := 54) dX12_give_53 (by decide) rfl ?_
      refine z_goto (pc' := 58) dX12_give_54 (by decide) ?_
      exact z_dr (ls' := [some (.ref q0), some (.int x1), some (.int x2)]) ⟨rfl, rfl, rfl, trivial⟩ h
def wp_X12_give_58 (E : ZE) (l : Launch) (d b : Nat) (G0 : ZG) (Q : ZQ) (k : Nat) (q0 : Nat) (x1 : Int32) (x2 : Int32) (s0 : Int32) (p1 : Nat) (G : ZG) : Prop :=
  zob G p1 13 ∧
  xcI E l mX12_throwsIf d [.ref p1, .int s0, .int 3] G k (fun X G9 => Q (.inr X) G9) (fun y1 G2 k3 =>
  ((y1 = 0 →
    zob G2 q0 13 ∧
    (zar G2 (zrv G2 q0 57) 0 ∨ zrd G2 (zrv G2 q0 57) .int) ∧ vp_in x1 (zln G2 (zrv G2 q0 57)) ∧
    zar G2 (zrv G2 q0 57) 0 ∧ vp_in x1 (zln G2 (zrv G2 q0 57)) ∧
    ∀ G4, G4 = zsi G2 (zrv G2 q0 57) x1.toNatClampNeg ((ziv G2 (zrv G2 q0 57) x1.toNatClampNeg) ||| x2) →
    zob G4 q0 13 ∧
    xcI E l mX12_lacksOf d [.ref q0, .int x1] G4 k3 (fun X G9 => Q (.inr X) G9) (fun y5 G6 k7 =>
    ((¬ y5 = 0 →
      zob G6 q0 13 ∧
      xcI E l mX12_lacksOf d [.ref q0, .int x1] G6 k7 (fun X G9 => Q (.inr X) G9) (fun y8 G9 k10 =>
      Q (.inl (some (.int y8))) G9)) ∧
    (¬ (¬ y5 = 0) →
      zob G6 q0 13 ∧
      xcV E l mX12_sets d [.ref q0, .int x1, .int 0, .int 0] G6 k7 (fun X G9 => Q (.inr X) G9) (fun G11 k12 =>
      zob G11 q0 13 ∧
      xcI E l mX12_lacksOf d [.ref q0, .int x1] G11 k12 (fun X G9 => Q (.inr X) G9) (fun y13 G14 k15 =>
      Q (.inl (some (.int y13))) G14)))))) ∧
  (¬ (y1 = 0) →
    Q (.inl (some (.int 0))) G2)))
theorem wpt_X12_give_58 {E : ZE} {l : Launch} {d b : Nat} {G0 : ZG} {Q : ZQ} {k : Nat} {q0 : Nat} {x1 : Int32} {x2 : Int32} {s0 : Int32} {p1 : Nat} {G : ZG} (h : wp_X12_give_58 E l d b G0 Q k q0 x1 x2 s0 p1 G) : zW E l mX12_give d b G0 Q k 58 [some (.ref q0), some (.int x1), some (.int x2)] [.int s0, .ref p1] G := by
  unfold wp_X12_give_58 at h
  refine z_iconst (x := 3) (pc' := 59) dX12_give_58 (by decide) rfl ?_
  obtain ⟨h1, h⟩ := h
  obtain ⟨d1, b1, Qz, hm, hdd, hb, hkx, hk⟩ := h
  refine z_callV (Y := mX12_throwsIf) (n := 2) (as := [.int s0, .int 3]) (st := []) (pc' := 62) (ci := 13) (q := p1) hm dX12_give_59 kX12_321 vX12_throwsIf rfl rfl (by decide) rfl h1 hdd hb (Nat.le_of_ble_eq_true rfl) (fun r G2 hz => ?_) hkx
  obtain ⟨y1, rfl, h⟩ := hk r G2 hz
  refine z_if_eq (pt := 67) (pc' := 65) dX12_give_62 (by decide) rfl (fun hc => ?_) (fun hc => ?_)
  · have h := h.1 hc
    refine z_aload_n (pc' := 68) dX12_give_67 rfl rfl ?_
    obtain ⟨h1, h⟩ := h
    refine z_getR (ci := 13) (kf := 57) (pc' := 71) dX12_give_68 kX12_124 (Or.inl rfl) (by decide) (by decide) rfl rfl h1 ?_
    refine z_iload_n (pc' := 72) dX12_give_71 rfl rfl ?_
    refine z_dup2 (pc' := 73) dX12_give_72 rfl rfl rfl ?_
    obtain ⟨h1, h2, h⟩ := h
    refine z_iald (pc' := 74) dX12_give_73 rfl h1 h2 ?_
    refine z_iload_n (pc' := 75) dX12_give_74 rfl rfl ?_
    refine z_ior (pc' := 76) dX12_give_75 rfl rfl ?_
    obtain ⟨h1, h2, h⟩ := h
    obtain ⟨G4, hG⟩ : ∃ z, z = zsi G2 (zrv G2 q0 57) x1.toNatClampNeg ((ziv G2 (zrv G2 q0 57) x1.toNatClampNeg) ||| x2) := ⟨_, rfl⟩
    have h := h _ hG
    refine z_iast (pc' := 77) dX12_give_76 rfl h1 h2  ?_
    refine z_st hG ?_
    refine z_aload_n (pc' := 78) dX12_give_77 rfl rfl ?_
    refine z_iload_n (pc' := 79) dX12_give_78 rfl rfl ?_
    obtain ⟨h1, h⟩ := h
    obtain ⟨d1, b1, Qz, hm, hdd, hb, hkx, hk⟩ := h
    refine z_callV (Y := mX12_lacksOf) (n := 1) (as := [.int x1]) (st := []) (pc' := 82) (ci := 13) (q := q0) hm dX12_give_79 kX12_437 vX12_lacksOf rfl rfl (by decide) rfl h1 hdd hb (Nat.le_of_ble_eq_true rfl) (fun r G6 hz => ?_) hkx
    obtain ⟨y5, rfl, h⟩ := hk r G6 hz
    refine z_if_ne (pt := 92) (pc' := 85) dX12_give_82 (by decide) rfl (fun hc => ?_) (fun hc => ?_)
    · have h := h.1 hc
      refine z_aload_n (pc' := 93) dX12_give_92 rfl rfl ?_
      refine z_iload_n (pc' := 94) dX12_give_93 rfl rfl ?_
      obtain ⟨h1, h⟩ := h
      obtain ⟨d1, b1, Qz, hm, hdd, hb, hkx, hk⟩ := h
      refine z_callV (Y := mX12_lacksOf) (n := 1) (as := [.int x1]) (st := []) (pc' := 97) (ci := 13) (q := q0) hm dX12_give_94 kX12_437 vX12_lacksOf rfl rfl (by decide) rfl h1 hdd hb (Nat.le_of_ble_eq_true rfl) (fun r G9 hz => ?_) hkx
      obtain ⟨y8, rfl, h⟩ := hk r G9 hz
      exact z_iret dX12_give_97 rfl h
    · have h := h.2 hc
      refine z_aload_n (pc' := 86) dX12_give_85 rfl rfl ?_
      refine z_iload_n (pc' := 87) dX12_give_86 rfl rfl ?_
      refine z_iconst (x := 0) (pc' := 88) dX12_give_87 (by decide) rfl ?_
      refine z_iconst (x := 0) (pc' := 89) dX12_give_88 (by decide) rfl ?_
      obtain ⟨h1, h⟩ := h
      obtain ⟨d1, b1, Qz, hm, hdd, hb, hkx, hk⟩ := h
      refine z_callV (Y := mX12_sets) (n := 3) (as := [.int x1, .int 0, .int 0]) (st := []) (pc' := 92) (ci := 13) (q := q0) hm dX12_give_89 kX12_425 vX12_sets rfl rfl (by decide) rfl h1 hdd hb (Nat.le_of_ble_eq_true rfl) (fun r G11 hz => ?_) hkx
      obtain ⟨rfl, h⟩ := hk r G11 hz
      refine z_aload_n (pc' := 93) dX12_give_92 rfl rfl ?_
      refine z_iload_n (pc' := 94) dX12_give_93 rfl rfl ?_
      obtain ⟨h1, h⟩ := h
      obtain ⟨d1, b1, Qz, hm, hdd, hb, hkx, hk⟩ := h
      refine z_callV (Y := mX12_lacksOf) (n := 1) (as := [.int x1]) (st := []) (pc' := 97) (ci := 13) (q := q0) hm dX12_give_94 kX12_437 vX12_lacksOf rfl rfl (by decide) rfl h1 hdd hb (Nat.le_of_ble_eq_true rfl) (fun r G14 hz => ?_) hkx
      obtain ⟨y13, rfl, h⟩ := hk r G14 hz
      exact z_iret dX12_give_97 rfl h
  · have h := h.2 hc
    refine z_iconst (x := 0) (pc' := 66) dX12_give_65 (by decide) rfl ?_
    exact z_iret dX12_give_66 rfl h
def wp_X12_hands_0 (E : ZE) (l : Launch) (d b : Nat) (G0 : ZG) (Q : ZQ) (k : Nat) (q0 : Nat) (x1 : Int32) (x2 : Int32) (G : ZG) : Prop :=
  zob G q0 13 ∧
  ∀ G1, G1 = zsi G q0 0 0 →
  xcI E l mX12_noDesk d [.int x1] G1 k (fun X G9 => Q (.inr X) G9) (fun y2 G3 k4 =>
  zob G3 q0 13 ∧
  xcI E l mX12_throwsIf d [.ref q0, .int y2, .int 1] G3 k4 (fun X G9 => Q (.inr X) G9) (fun y5 G6 k7 =>
  ((¬ y5 = 0 →
    Q (.inl none) G6) ∧
  (¬ (¬ y5 = 0) →
    xcI E l mX12_in d [.int x2, .int 0, .int 30] G6 k7 (fun X G9 => Q (.inr X) G9) (fun y8 G9 k10 =>
    ((¬ y8 = 0 →
      zob G9 q0 13 ∧
      xcI E l mX12_throwsIf d [.ref q0, .int 0, .int 2] G9 k10 (fun X G9 => Q (.inr X) G9) (fun y11 G12 k13 =>
      ((y11 = 0 →
        zob G12 q0 13 ∧
        zar G12 (zrv G12 q0 46) 0 ∧ vp_in x1 (zln G12 (zrv G12 q0 46)) ∧
        ∀ G14, G14 = zsi G12 (zrv G12 q0 46) x1.toNatClampNeg x2 →
        Q (.inl none) G14) ∧
      (¬ (y11 = 0) →
        Q (.inl none) G12)))) ∧
    (¬ (¬ y8 = 0) →
      zob G9 q0 13 ∧
      xcI E l mX12_throwsIf d [.ref q0, .int 1, .int 2] G9 k10 (fun X G9 => Q (.inr X) G9) (fun y15 G16 k17 =>
      ((y15 = 0 →
        zob G16 q0 13 ∧
        zar G16 (zrv G16 q0 46) 0 ∧ vp_in x1 (zln G16 (zrv G16 q0 46)) ∧
        ∀ G18, G18 = zsi G16 (zrv G16 q0 46) x1.toNatClampNeg x2 →
        Q (.inl none) G18) ∧
      (¬ (y15 = 0) →
        Q (.inl none) G16))))))))))
theorem wpt_X12_hands_0 {E : ZE} {l : Launch} {d b : Nat} {G0 : ZG} {Q : ZQ} {k : Nat} {q0 : Nat} {x1 : Int32} {x2 : Int32} {G : ZG} (h : wp_X12_hands_0 E l d b G0 Q k q0 x1 x2 G) : zW E l mX12_hands d b G0 Q k 0 [some (.ref q0), some (.int x1), some (.int x2)] [] G := by
  unfold wp_X12_hands_0 at h
  refine z_aload_n (pc' := 1) dX12_hands_0 rfl rfl ?_
  refine z_iconst (x := 0) (pc' := 2) dX12_hands_1 (by decide) rfl ?_
  obtain ⟨h1, h⟩ := h
  obtain ⟨G1, hG⟩ : ∃ z, z = zsi G q0 0 0 := ⟨_, rfl⟩
  have h := h _ hG
  refine z_putI (ci := 13) (kf := 0) (pc' := 5) dX12_hands_2 kX12_178 (Or.inl rfl) (by decide) (by decide) rfl (Or.inl rfl) rfl h1 (zok_int _) ?_
  refine z_st hG ?_
  refine z_aload_n (pc' := 6) dX12_hands_5 rfl rfl ?_
  refine z_iload_n (pc' := 7) dX12_hands_6 rfl rfl ?_
  obtain ⟨d1, b1, Qz, hm, hdd, hb, hkx, hk⟩ := h
  refine z_callS (Y := mX12_noDesk) (n := 1) (as := [.int x1]) (st := [.ref q0]) (pc' := 10) hm dX12_hands_7 kX12_394 sX12_noDesk rfl rfl hdd hb (Nat.le_of_ble_eq_true rfl) (fun r G3 hz => ?_) hkx
  obtain ⟨y2, rfl, h⟩ := hk r G3 hz
  refine z_iconst (x := 1) (pc' := 11) dX12_hands_10 (by decide) rfl ?_
  obtain ⟨h1, h⟩ := h
  obtain ⟨d1, b1, Qz, hm, hdd, hb, hkx, hk⟩ := h
  refine z_callV (Y := mX12_throwsIf) (n := 2) (as := [.int y2, .int 1]) (st := []) (pc' := 14) (ci := 13) (q := q0) hm dX12_hands_11 kX12_321 vX12_throwsIf rfl rfl (by decide) rfl h1 hdd hb (Nat.le_of_ble_eq_true rfl) (fun r G6 hz => ?_) hkx
  obtain ⟨y5, rfl, h⟩ := hk r G6 hz
  refine z_if_ne (pt := 40) (pc' := 17) dX12_hands_14 (by decide) rfl (fun hc => ?_) (fun hc => ?_)
  · have h := h.1 hc
    exact z_vret dX12_hands_40 rfl h
  · have h := h.2 hc
    refine z_aload_n (pc' := 18) dX12_hands_17 rfl rfl ?_
    refine z_iload_n (pc' := 19) dX12_hands_18 rfl rfl ?_
    refine z_iconst (x := 0) (pc' := 20) dX12_hands_19 (by decide) rfl ?_
    refine z_bipush (x := 30) (pc' := 22) dX12_hands_20 (by decide) rfl ?_
    obtain ⟨d1, b1, Qz, hm, hdd, hb, hkx, hk⟩ := h
    refine z_callS (Y := mX12_in) (n := 3) (as := [.int x2, .int 0, .int 30]) (st := [.ref q0]) (pc' := 25) hm dX12_hands_22 kX12_317 sX12_in rfl rfl hdd hb (Nat.le_of_ble_eq_true rfl) (fun r G9 hz => ?_) hkx
    obtain ⟨y8, rfl, h⟩ := hk r G9 hz
    refine z_if_ne (pt := 32) (pc' := 28) dX12_hands_25 (by decide) rfl (fun hc => ?_) (fun hc => ?_)
    · have h := h.1 hc
      refine z_iconst (x := 0) (pc' := 33) dX12_hands_32 (by decide) rfl ?_
      refine z_iconst (x := 2) (pc' := 34) dX12_hands_33 (by decide) rfl ?_
      obtain ⟨h1, h⟩ := h
      obtain ⟨d1, b1, Qz, hm, hdd, hb, hkx, hk⟩ := h
      refine z_callV (Y := mX12_throwsIf) (n := 2) (as := [.int 0, .int 2]) (st := []) (pc' := 37) (ci := 13) (q := q0) hm dX12_hands_34 kX12_321 vX12_throwsIf rfl rfl (by decide) rfl h1 hdd hb (Nat.le_of_ble_eq_true rfl) (fun r G12 hz => ?_) hkx
      obtain ⟨y11, rfl, h⟩ := hk r G12 hz
      refine z_if_eq (pt := 41) (pc' := 40) dX12_hands_37 (by decide) rfl (fun hc => ?_) (fun hc => ?_)
      · have h := h.1 hc
        refine z_aload_n (pc' := 42) dX12_hands_41 rfl rfl ?_
        obtain ⟨h1, h⟩ := h
        refine z_getR (ci := 13) (kf := 46) (pc' := 45) dX12_hands_42 kX12_94 (Or.inl rfl) (by decide) (by decide) rfl rfl h1 ?_
        refine z_iload_n (pc' := 46) dX12_hands_45 rfl rfl ?_
        refine z_iload_n (pc' := 47) dX12_hands_46 rfl rfl ?_
        obtain ⟨h1, h2, h⟩ := h
        obtain ⟨G14, hG⟩ : ∃ z, z = zsi G12 (zrv G12 q0 46) x1.toNatClampNeg x2 := ⟨_, rfl⟩
        have h := h _ hG
        refine z_iast (pc' := 48) dX12_hands_47 rfl h1 h2  ?_
        refine z_st hG ?_
        exact z_vret dX12_hands_48 rfl h
      · have h := h.2 hc
        exact z_vret dX12_hands_40 rfl h
    · have h := h.2 hc
      refine z_iconst (x := 1) (pc' := 29) dX12_hands_28 (by decide) rfl ?_
      refine z_goto (pc' := 33) dX12_hands_29 (by decide) ?_
      refine z_iconst (x := 2) (pc' := 34) dX12_hands_33 (by decide) rfl ?_
      obtain ⟨h1, h⟩ := h
      obtain ⟨d1, b1, Qz, hm, hdd, hb, hkx, hk⟩ := h
      refine z_callV (Y := mX12_throwsIf) (n := 2) (as := [.int 1, .int 2]) (st := []) (pc' := 37) (ci := 13) (q := q0) hm dX12_hands_34 kX12_321 vX12_throwsIf rfl rfl (by decide) rfl h1 hdd hb (Nat.le_of_ble_eq_true rfl) (fun r G16 hz => ?_) hkx
      obtain ⟨y15, rfl, h⟩ := hk r G16 hz
      refine z_if_eq (pt := 41) (pc' := 40) dX12_hands_37 (by decide) rfl (fun hc => ?_) (fun hc => ?_)
      · have h := h.1 hc
        refine z_aload_n (pc' := 42) dX12_hands_41 rfl rfl ?_
        obtain ⟨h1, h⟩ := h
        refine z_getR (ci := 13) (kf := 46) (pc' := 45) dX12_hands_42 kX12_94 (Or.inl rfl) (by decide) (by decide) rfl rfl h1 ?_
        refine z_iload_n (pc' := 46) dX12_hands_45 rfl rfl ?_
        refine z_iload_n (pc' := 47) dX12_hands_46 rfl rfl ?_
        obtain ⟨h1, h2, h⟩ := h
        obtain ⟨G18, hG⟩ : ∃ z, z = zsi G16 (zrv G16 q0 46) x1.toNatClampNeg x2 := ⟨_, rfl⟩
        have h := h _ hG
        refine z_iast (pc' := 48) dX12_hands_47 rfl h1 h2  ?_
        refine z_st hG ?_
        exact z_vret dX12_hands_48 rfl h
      · have h := h.2 hc
        exact z_vret dX12_hands_40 rfl h
def wp_X12_hasTicket_0 (E : ZE) (l : Launch) (d b : Nat) (G0 : ZG) (Q : ZQ) (k : Nat) (q0 : Nat) (x1 : Int32) (G : ZG) : Prop :=
  zob G q0 13 ∧
  (zar G (zrv G q0 57) 0 ∨ zrd G (zrv G q0 57) .int) ∧ vp_in x1 (zln G (zrv G q0 57)) ∧
  ((¬ (((ziv G (zrv G q0 57) x1.toNatClampNeg) >>> (6 &&& 31)) &&& 1) = 1 →
    Q (.inl (some (.int 0))) G) ∧
  (¬ (¬ (((ziv G (zrv G q0 57) x1.toNatClampNeg) >>> (6 &&& 31)) &&& 1) = 1) →
    Q (.inl (some (.int 1))) G))
theorem wpt_X12_hasTicket_0 {E : ZE} {l : Launch} {d b : Nat} {G0 : ZG} {Q : ZQ} {k : Nat} {q0 : Nat} {x1 : Int32} {G : ZG} (h : wp_X12_hasTicket_0 E l d b G0 Q k q0 x1 G) : zW E l mX12_hasTicket d b G0 Q k 0 [some (.ref q0), some (.int x1)] [] G := by
  unfold wp_X12_hasTicket_0 at h
  refine z_aload_n (pc' := 1) dX12_hasTicket_0 rfl rfl ?_
  obtain ⟨h1, h⟩ := h
  refine z_getR (ci := 13) (kf := 57) (pc' := 4) dX12_hasTicket_1 kX12_124 (Or.inl rfl) (by decide) (by decide) rfl rfl h1 ?_
  refine z_iload_n (pc' := 5) dX12_hasTicket_4 rfl rfl ?_
  obtain ⟨h1, h2, h⟩ := h
  refine z_iald (pc' := 6) dX12_hasTicket_5 rfl h1 h2 ?_
  refine z_bipush (x := 6) (pc' := 8) dX12_hasTicket_6 (by decide) rfl ?_
  refine z_ishr (pc' := 9) dX12_hasTicket_8 rfl rfl ?_
  refine z_iconst (x := 1) (pc' := 10) dX12_hasTicket_9 (by decide) rfl ?_
  refine z_iand (pc' := 11) dX12_hasTicket_10 rfl rfl ?_
  refine z_iconst (x := 1) (pc' := 12) dX12_hasTicket_11 (by decide) rfl ?_
  refine z_icmp_ne (pt := 19) (pc' := 15) dX12_hasTicket_12 (by decide) rfl (fun hc => ?_) (fun hc => ?_)
  · have h := h.1 hc
    refine z_iconst (x := 0) (pc' := 20) dX12_hasTicket_19 (by decide) rfl ?_
    exact z_zret (ty := .boolean) dX12_hasTicket_20 rfl (by decide) h
  · have h := h.2 hc
    refine z_iconst (x := 1) (pc' := 16) dX12_hasTicket_15 (by decide) rfl ?_
    refine z_goto (pc' := 20) dX12_hasTicket_16 (by decide) ?_
    exact z_zret (ty := .boolean) dX12_hasTicket_20 rfl (by decide) h
def wp_X12_holds_0 (E : ZE) (l : Launch) (d b : Nat) (G0 : ZG) (Q : ZQ) (k : Nat) (q0 : Nat) (x1 : Int32) (x2 : Int32) (x3 : Int32) (G : ZG) : Prop :=
  zW E l mX12_holds d b G0 Q k 12 [some (.ref q0), some (.int x1), none, some (.int x3), some (.int 0), some (.int ((400 * x1) + x2)), none] [] G
theorem wpt_X12_holds_0 {E : ZE} {l : Launch} {d b : Nat} {G0 : ZG} {Q : ZQ} {k : Nat} {q0 : Nat} {x1 : Int32} {x2 : Int32} {x3 : Int32} {G : ZG} (h : wp_X12_holds_0 E l d b G0 Q k q0 x1 x2 x3 G) : zW E l mX12_holds d b G0 Q k 0 [some (.ref q0), some (.int x1), some (.int x2), some (.int x3), none, none, none] [] G := by
  unfold wp_X12_holds_0 at h
  refine z_iconst (x := 0) (pc' := 1) dX12_holds_0 (by decide) rfl ?_
  refine z_istore (pc' := 3) dX12_holds_1 (by decide) rfl ?_
  refine z_sipush (x := 400) (pc' := 6) dX12_holds_3 (by decide) rfl ?_
  refine z_iload_n (pc' := 7) dX12_holds_6 rfl rfl ?_
  refine z_imul (pc' := 8) dX12_holds_7 rfl rfl ?_
  refine z_iload_n (pc' := 9) dX12_holds_8 rfl rfl ?_
  refine z_iadd (pc' := 10) dX12_holds_9 rfl rfl ?_
  refine z_istore (pc' := 12) dX12_holds_10 (by decide) rfl ?_
  exact z_dr (ls' := [some (.ref q0), some (.int x1), none, some (.int x3), some (.int 0), some (.int ((400 * x1) + x2)), none]) ⟨rfl, rfl, rfl, rfl, rfl, trivial⟩ h
def wp_X12_holds_12 (E : ZE) (l : Launch) (d b : Nat) (G0 : ZG) (Q : ZQ) (k : Nat) (q0 : Nat) (x1 : Int32) (x3 : Int32) (x4 : Int32) (x5 : Int32) (G : ZG) : Prop :=
  ((((400 * x1) + x3) ≤ x5 →
    ((x4 = 0 →
      Q (.inl (some (.int 1))) G) ∧
    (¬ (x4 = 0) →
      zob G q0 13 ∧
      zar G (zrv G q0 22) 2 ∧ vp_in 0 (zln G (zrv G q0 22)) ∧
      (((ziv G (zrv G q0 22) (0 : Int32).toNatClampNeg) = 0 →
        Q (.inl (some (.int 0))) G) ∧
      (¬ ((ziv G (zrv G q0 22) (0 : Int32).toNatClampNeg) = 0) →
        Q (.inl (some (.int 1))) G))))) ∧
  (¬ (((400 * x1) + x3) ≤ x5) →
    zob G q0 13 ∧
    (zar G (zrv G q0 16) 0 ∨ zrd G (zrv G q0 16) .int) ∧ vp_in x5 (zln G (zrv G q0 16)) ∧
    ((¬ (ziv G (zrv G q0 16) x5.toNatClampNeg) = 100 →
      zob G q0 13 ∧
      (zar G (zrv G q0 16) 0 ∨ zrd G (zrv G q0 16) .int) ∧ vp_in x5 (zln G (zrv G q0 16)) ∧
      (((ziv G (zrv G q0 16) x5.toNatClampNeg) < 101 →
        zob G q0 13 ∧
        zob G q0 13 ∧
        (zar G (zrv G q0 16) 0 ∨ zrd G (zrv G q0 16) .int) ∧ vp_in x5 (zln G (zrv G q0 16)) ∧
        (zar G (zrv G q0 21) 0 ∨ zrd G (zrv G q0 21) .int) ∧ vp_in (ziv G (zrv G q0 16) x5.toNatClampNeg) (zln G (zrv G q0 21)) ∧
        zob G q0 13 ∧
        zob G q0 13 ∧
        (zar G (zrv G q0 17) 0 ∨ zrd G (zrv G q0 17) .int) ∧ vp_in x5 (zln G (zrv G q0 17)) ∧
        ((¬ (ziv G (zrv G q0 17) x5.toNatClampNeg) = 0 →
          zob G q0 13 ∧
          (zar G (zrv G q0 17) 0 ∨ zrd G (zrv G q0 17) .int) ∧ vp_in x5 (zln G (zrv G q0 17)) ∧
          ((¬ (ziv G (zrv G q0 17) x5.toNatClampNeg) = 1 →
            zob G q0 13 ∧
            (zar G (zrv G q0 18) 0 ∨ zrd G (zrv G q0 18) .int) ∧ vp_in x5 (zln G (zrv G q0 18)) ∧
            (((ziv G (zrv G q0 21) (ziv G (zrv G q0 16) x5.toNatClampNeg).toNatClampNeg) ≤ (ziv G (zrv G q0 18) x5.toNatClampNeg) →
              zar G (zrv G q0 22) 2 ∧ vp_in x4 (zln G (zrv G q0 22)) ∧
              ∀ G1, G1 = zsi G (zrv G q0 22) x4.toNatClampNeg 0 →
              zW E l mX12_holds d b G0 Q k 12 [some (.ref q0), some (.int x1), none, some (.int x3), some (.int (x4 + 1)), some (.int (x5 + 1)), none] [] G1) ∧
            (¬ ((ziv G (zrv G q0 21) (ziv G (zrv G q0 16) x5.toNatClampNeg).toNatClampNeg) ≤ (ziv G (zrv G q0 18) x5.toNatClampNeg)) →
              zar G (zrv G q0 22) 2 ∧ vp_in x4 (zln G (zrv G q0 22)) ∧
              ∀ G2, G2 = zsi G (zrv G q0 22) x4.toNatClampNeg 1 →
              zW E l mX12_holds d b G0 Q k 12 [some (.ref q0), some (.int x1), none, some (.int x3), some (.int (x4 + 1)), some (.int (x5 + 1)), none] [] G2))) ∧
          (¬ (¬ (ziv G (zrv G q0 17) x5.toNatClampNeg) = 1) →
            zob G q0 13 ∧
            (zar G (zrv G q0 18) 0 ∨ zrd G (zrv G q0 18) .int) ∧ vp_in x5 (zln G (zrv G q0 18)) ∧
            (((ziv G (zrv G q0 18) x5.toNatClampNeg) ≤ (ziv G (zrv G q0 21) (ziv G (zrv G q0 16) x5.toNatClampNeg).toNatClampNeg) →
              zar G (zrv G q0 22) 2 ∧ vp_in x4 (zln G (zrv G q0 22)) ∧
              ∀ G3, G3 = zsi G (zrv G q0 22) x4.toNatClampNeg 0 →
              zW E l mX12_holds d b G0 Q k 12 [some (.ref q0), some (.int x1), none, some (.int x3), some (.int (x4 + 1)), some (.int (x5 + 1)), none] [] G3) ∧
            (¬ ((ziv G (zrv G q0 18) x5.toNatClampNeg) ≤ (ziv G (zrv G q0 21) (ziv G (zrv G q0 16) x5.toNatClampNeg).toNatClampNeg)) →
              zar G (zrv G q0 22) 2 ∧ vp_in x4 (zln G (zrv G q0 22)) ∧
              ∀ G4, G4 = zsi G (zrv G q0 22) x4.toNatClampNeg 1 →
              zW E l mX12_holds d b G0 Q k 12 [some (.ref q0), some (.int x1), none, some (.int x3), some (.int (x4 + 1)), some (.int (x5 + 1)), none] [] G4))))) ∧
        (¬ (¬ (ziv G (zrv G q0 17) x5.toNatClampNeg) = 0) →
          (((ziv G (zrv G q0 21) (ziv G (zrv G q0 16) x5.toNatClampNeg).toNatClampNeg) = 0 →
            zar G (zrv G q0 22) 2 ∧ vp_in x4 (zln G (zrv G q0 22)) ∧
            ∀ G5, G5 = zsi G (zrv G q0 22) x4.toNatClampNeg 0 →
            zW E l mX12_holds d b G0 Q k 12 [some (.ref q0), some (.int x1), none, some (.int x3), some (.int (x4 + 1)), some (.int (x5 + 1)), none] [] G5) ∧
          (¬ ((ziv G (zrv G q0 21) (ziv G (zrv G q0 16) x5.toNatClampNeg).toNatClampNeg) = 0) →
            zar G (zrv G q0 22) 2 ∧ vp_in x4 (zln G (zrv G q0 22)) ∧
            ∀ G6, G6 = zsi G (zrv G q0 22) x4.toNatClampNeg 1 →
            zW E l mX12_holds d b G0 Q k 12 [some (.ref q0), some (.int x1), none, some (.int x3), some (.int (x4 + 1)), some (.int (x5 + 1)), none] [] G6))))) ∧
      (¬ ((ziv G (zrv G q0 16) x5.toNatClampNeg) < 101) →
        zob G q0 13 ∧
        zob G q0 13 ∧
        (zar G (zrv G q0 16) 0 ∨ zrd G (zrv G q0 16) .int) ∧ vp_in x5 (zln G (zrv G q0 16)) ∧
        ((¬ (ziv G (zrv G q0 16) x5.toNatClampNeg) = 101 →
          zob G q0 13 ∧
          zar G (zrv G q0 22) 2 ∧ vp_in ((x4 + (-1)) - 1) (zln G (zrv G q0 22)) ∧
          ((¬ (ziv G (zrv G q0 22) ((x4 + (-1)) - 1).toNatClampNeg) = 0 →
            zar G (zrv G q0 22) 2 ∧ vp_in ((x4 + (-1)) - 1) (zln G (zrv G q0 22)) ∧
            ∀ G7, G7 = zsi G (zrv G q0 22) ((x4 + (-1)) - 1).toNatClampNeg 1 →
            zW E l mX12_holds d b G0 Q k 12 [some (.ref q0), some (.int x1), none, some (.int x3), some (.int (x4 + (-1))), some (.int (x5 + 1)), none] [] G7) ∧
          (¬ (¬ (ziv G (zrv G q0 22) ((x4 + (-1)) - 1).toNatClampNeg) = 0) →
            zob G q0 13 ∧
            zar G (zrv G q0 22) 2 ∧ vp_in (x4 + (-1)) (zln G (zrv G q0 22)) ∧
            (((ziv G (zrv G q0 22) (x4 + (-1)).toNatClampNeg) = 0 →
              zar G (zrv G q0 22) 2 ∧ vp_in ((x4 + (-1)) - 1) (zln G (zrv G q0 22)) ∧
              ∀ G8, G8 = zsi G (zrv G q0 22) ((x4 + (-1)) - 1).toNatClampNeg 0 →
              zW E l mX12_holds d b G0 Q k 12 [some (.ref q0), some (.int x1), none, some (.int x3), some (.int (x4 + (-1))), some (.int (x5 + 1)), none] [] G8) ∧
            (¬ ((ziv G (zrv G q0 22) (x4 + (-1)).toNatClampNeg) = 0) →
              zar G (zrv G q0 22) 2 ∧ vp_in ((x4 + (-1)) - 1) (zln G (zrv G q0 22)) ∧
              ∀ G9, G9 = zsi G (zrv G q0 22) ((x4 + (-1)) - 1).toNatClampNeg 1 →
              zW E l mX12_holds d b G0 Q k 12 [some (.ref q0), some (.int x1), none, some (.int x3), some (.int (x4 + (-1))), some (.int (x5 + 1)), none] [] G9))))) ∧
        (¬ (¬ (ziv G (zrv G q0 16) x5.toNatClampNeg) = 101) →
          zob G q0 13 ∧
          zar G (zrv G q0 22) 2 ∧ vp_in ((x4 + (-1)) - 1) (zln G (zrv G q0 22)) ∧
          (((ziv G (zrv G q0 22) ((x4 + (-1)) - 1).toNatClampNeg) = 0 →
            zar G (zrv G q0 22) 2 ∧ vp_in ((x4 + (-1)) - 1) (zln G (zrv G q0 22)) ∧
            ∀ G10, G10 = zsi G (zrv G q0 22) ((x4 + (-1)) - 1).toNatClampNeg 0 →
            zW E l mX12_holds d b G0 Q k 12 [some (.ref q0), some (.int x1), none, some (.int x3), some (.int (x4 + (-1))), some (.int (x5 + 1)), none] [] G10) ∧
          (¬ ((ziv G (zrv G q0 22) ((x4 + (-1)) - 1).toNatClampNeg) = 0) →
            zob G q0 13 ∧
            zar G (zrv G q0 22) 2 ∧ vp_in (x4 + (-1)) (zln G (zrv G q0 22)) ∧
            (((ziv G (zrv G q0 22) (x4 + (-1)).toNatClampNeg) = 0 →
              zar G (zrv G q0 22) 2 ∧ vp_in ((x4 + (-1)) - 1) (zln G (zrv G q0 22)) ∧
              ∀ G11, G11 = zsi G (zrv G q0 22) ((x4 + (-1)) - 1).toNatClampNeg 0 →
              zW E l mX12_holds d b G0 Q k 12 [some (.ref q0), some (.int x1), none, some (.int x3), some (.int (x4 + (-1))), some (.int (x5 + 1)), none] [] G11) ∧
            (¬ ((ziv G (zrv G q0 22) (x4 + (-1)).toNatClampNeg) = 0) →
              zar G (zrv G q0 22) 2 ∧ vp_in ((x4 + (-1)) - 1) (zln G (zrv G q0 22)) ∧
              ∀ G12, G12 = zsi G (zrv G q0 22) ((x4 + (-1)) - 1).toNatClampNeg 1 →
              zW E l mX12_holds d b G0 Q k 12 [some (.ref q0), some (.int x1), none, some (.int x3), some (.int (x4 + (-1))), some (.int (x5 + 1)), none] [] G12))))))))) ∧
    (¬ (¬ (ziv G (zrv G q0 16) x5.toNatClampNeg) = 100) →
      zob G q0 13 ∧
      zob G q0 13 ∧
      zar G (zrv G q0 22) 2 ∧ vp_in (x4 - 1) (zln G (zrv G q0 22)) ∧
      ((¬ (ziv G (zrv G q0 22) (x4 - 1).toNatClampNeg) = 0 →
        zar G (zrv G q0 22) 2 ∧ vp_in (x4 - 1) (zln G (zrv G q0 22)) ∧
        ∀ G13, G13 = zsi G (zrv G q0 22) (x4 - 1).toNatClampNeg 0 →
        zW E l mX12_holds d b G0 Q k 12 [some (.ref q0), some (.int x1), none, some (.int x3), some (.int x4), some (.int (x5 + 1)), none] [] G13) ∧
      (¬ (¬ (ziv G (zrv G q0 22) (x4 - 1).toNatClampNeg) = 0) →
        zar G (zrv G q0 22) 2 ∧ vp_in (x4 - 1) (zln G (zrv G q0 22)) ∧
        ∀ G14, G14 = zsi G (zrv G q0 22) (x4 - 1).toNatClampNeg 1 →
        zW E l mX12_holds d b G0 Q k 12 [some (.ref q0), some (.int x1), none, some (.int x3), some (.int x4), some (.int (x5 + 1)), none] [] G14))))))
theorem wpt_X12_holds_12 {E : ZE} {l : Launch} {d b : Nat} {G0 : ZG} {Q : ZQ} {k : Nat} {q0 : Nat} {x1 : Int32} {x3 : Int32} {x4 : Int32} {x5 : Int32} {G : ZG} (h : wp_X12_holds_12 E l d b G0 Q k q0 x1 x3 x4 x5 G) : zW E l mX12_holds d b G0 Q k 12 [some (.ref q0), some (.int x1), none, some (.int x3), some (.int x4), some (.int x5), none] [] G := by
  unfold wp_X12_holds_12 at h
  refine z_iload (pc' := 14) dX12_holds_12 rfl rfl ?_
  refine z_sipush (x := 400) (pc' := 17) dX12_holds_14 (by decide) rfl ?_
  refine z_iload_n (pc' := 18) dX12_holds_17 rfl rfl ?_
  refine z_imul (pc' := 19) dX12_holds_18 rfl rfl ?_
  refine z_iload_n (pc' := 20) dX12_holds_19 rfl rfl ?_
  refine z_iadd (pc' := 21) dX12_holds_20 rfl rfl ?_
  refine z_icmp_ge (pt := 262) (pc' := 24) dX12_holds_21 (by decide) rfl (fun hc => ?_) (fun hc => ?_)
  · have h := h.1 hc
    refine z_iload (pc' := 264) dX12_holds_262 rfl rfl ?_
    refine z_if_eq (pt := 276) (pc' := 267) dX12_holds_264 (by decide) rfl (fun hc => ?_) (fun hc => ?_)
    · have h := h.1 hc
      refine z_iconst (x := 1) (pc' := 277) dX12_holds_276 (by decide) rfl ?_
      refine z_goto (pc' := 281) dX12_holds_277 (by decide) ?_
      exact z_zret (ty := .boolean) dX12_holds_281 rfl (by decide) h
    · have h := h.2 hc
      refine z_aload_n (pc' := 268) dX12_holds_267 rfl rfl ?_
      obtain ⟨h1, h⟩ := h
      refine z_getR (ci := 13) (kf := 22) (pc' := 271) dX12_holds_268 kX12_51 (Or.inl rfl) (by decide) (by decide) rfl rfl h1 ?_
      refine z_iconst (x := 0) (pc' := 272) dX12_holds_271 (by decide) rfl ?_
      obtain ⟨h1, h2, h⟩ := h
      refine z_zald (pc' := 273) dX12_holds_272 rfl h1 h2 ?_
      refine z_if_eq (pt := 280) (pc' := 276) dX12_holds_273 (by decide) rfl (fun hc => ?_) (fun hc => ?_)
      · have h := h.1 hc
        refine z_iconst (x := 0) (pc' := 281) dX12_holds_280 (by decide) rfl ?_
        exact z_zret (ty := .boolean) dX12_holds_281 rfl (by decide) h
      · have h := h.2 hc
        refine z_iconst (x := 1) (pc' := 277) dX12_holds_276 (by decide) rfl ?_
        refine z_goto (pc' := 281) dX12_holds_277 (by decide) ?_
        exact z_zret (ty := .boolean) dX12_holds_281 rfl (by decide) h
  · have h := h.2 hc
    refine z_aload_n (pc' := 25) dX12_holds_24 rfl rfl ?_
    obtain ⟨h1, h⟩ := h
    refine z_getR (ci := 13) (kf := 16) (pc' := 28) dX12_holds_25 kX12_39 (Or.inl rfl) (by decide) (by decide) rfl rfl h1 ?_
    refine z_iload (pc' := 30) dX12_holds_28 rfl rfl ?_
    obtain ⟨h1, h2, h⟩ := h
    refine z_iald (pc' := 31) dX12_holds_30 rfl h1 h2 ?_
    refine z_bipush (x := 100) (pc' := 33) dX12_holds_31 (by decide) rfl ?_
    refine z_icmp_ne (pt := 65) (pc' := 36) dX12_holds_33 (by decide) rfl (fun hc => ?_) (fun hc => ?_)
    · have h := h.1 hc
      refine z_aload_n (pc' := 66) dX12_holds_65 rfl rfl ?_
      obtain ⟨h1, h⟩ := h
      refine z_getR (ci := 13) (kf := 16) (pc' := 69) dX12_holds_66 kX12_39 (Or.inl rfl) (by decide) (by decide) rfl rfl h1 ?_
      refine z_iload (pc' := 71) dX12_holds_69 rfl rfl ?_
      obtain ⟨h1, h2, h⟩ := h
      refine z_iald (pc' := 72) dX12_holds_71 rfl h1 h2 ?_
      refine z_bipush (x := 101) (pc' := 74) dX12_holds_72 (by decide) rfl ?_
      refine z_icmp_lt (pt := 161) (pc' := 77) dX12_holds_74 (by decide) rfl (fun hc => ?_) (fun hc => ?_)
      · have h := h.1 hc
        refine z_aload_n (pc' := 162) dX12_holds_161 rfl rfl ?_
        obtain ⟨h1, h⟩ := h
        refine z_getR (ci := 13) (kf := 21) (pc' := 165) dX12_holds_162 kX12_48 (Or.inl rfl) (by decide) (by decide) rfl rfl h1 ?_
        refine z_aload_n (pc' := 166) dX12_holds_165 rfl rfl ?_
        obtain ⟨h1, h⟩ := h
        refine z_getR (ci := 13) (kf := 16) (pc' := 169) dX12_holds_166 kX12_39 (Or.inl rfl) (by decide) (by decide) rfl rfl h1 ?_
        refine z_iload (pc' := 171) dX12_holds_169 rfl rfl ?_
        obtain ⟨h1, h2, h⟩ := h
        refine z_iald (pc' := 172) dX12_holds_171 rfl h1 h2 ?_
        obtain ⟨h1, h2, h⟩ := h
        refine z_iald (pc' := 173) dX12_holds_172 rfl h1 h2 ?_
        refine z_istore (pc' := 175) dX12_holds_173 (by decide) rfl ?_
        refine z_aload_n (pc' := 176) dX12_holds_175 rfl rfl ?_
        obtain ⟨h1, h⟩ := h
        refine z_getR (ci := 13) (kf := 22) (pc' := 179) dX12_holds_176 kX12_51 (Or.inl rfl) (by decide) (by decide) rfl rfl h1 ?_
        refine z_iload (pc' := 181) dX12_holds_179 rfl rfl ?_
        refine z_aload_n (pc' := 182) dX12_holds_181 rfl rfl ?_
        obtain ⟨h1, h⟩ := h
        refine z_getR (ci := 13) (kf := 17) (pc' := 185) dX12_holds_182 kX12_42 (Or.inl rfl) (by decide) (by decide) rfl rfl h1 ?_
        refine z_iload (pc' := 187) dX12_holds_185 rfl rfl ?_
        obtain ⟨h1, h2, h⟩ := h
        refine z_iald (pc' := 188) dX12_holds_187 rfl h1 h2 ?_
        refine z_if_ne (pt := 204) (pc' := 191) dX12_holds_188 (by decide) rfl (fun hc => ?_) (fun hc => ?_)
        · have h := h.1 hc
          refine z_aload_n (pc' := 205) dX12_holds_204 rfl rfl ?_
          obtain ⟨h1, h⟩ := h
          refine z_getR (ci := 13) (kf := 17) (pc' := 208) dX12_holds_205 kX12_42 (Or.inl rfl) (by decide) (by decide) rfl rfl h1 ?_
          refine z_iload (pc' := 210) dX12_holds_208 rfl rfl ?_
          obtain ⟨h1, h2, h⟩ := h
          refine z_iald (pc' := 211) dX12_holds_210 rfl h1 h2 ?_
          refine z_iconst (x := 1) (pc' := 212) dX12_holds_211 (by decide) rfl ?_
          refine z_icmp_ne (pt := 235) (pc' := 215) dX12_holds_212 (by decide) rfl (fun hc => ?_) (fun hc => ?_)
          · have h := h.1 hc
            refine z_iload (pc' := 237) dX12_holds_235 rfl rfl ?_
            refine z_aload_n (pc' := 238) dX12_holds_237 rfl rfl ?_
            obtain ⟨h1, h⟩ := h
            refine z_getR (ci := 13) (kf := 18) (pc' := 241) dX12_holds_238 kX12_45 (Or.inl rfl) (by decide) (by decide) rfl rfl h1 ?_
            refine z_iload (pc' := 243) dX12_holds_241 rfl rfl ?_
            obtain ⟨h1, h2, h⟩ := h
            refine z_iald (pc' := 244) dX12_holds_243 rfl h1 h2 ?_
            refine z_icmp_le (pt := 251) (pc' := 247) dX12_holds_244 (by decide) rfl (fun hc => ?_) (fun hc => ?_)
            · have h := h.1 hc
              refine z_iconst (x := 0) (pc' := 252) dX12_holds_251 (by decide) rfl ?_
              obtain ⟨h1, h2, h⟩ := h
              obtain ⟨G1, hG⟩ : ∃ z, z = zsi G (zrv G q0 22) x4.toNatClampNeg 0 := ⟨_, rfl⟩
              have h := h _ hG
              refine z_zast (pc' := 253) dX12_holds_252 rfl h1 h2 zok_0 ?_
              refine z_st hG ?_
              refine z_iinc (y := x4 + 1) (pc' := 256) dX12_holds_253 rfl (zinc_1 _) (by decide) rfl ?_
              refine z_iinc (y := x5 + 1) (pc' := 259) dX12_holds_256 rfl (zinc_1 _) (by decide) rfl ?_
              refine z_goto (pc' := 12) dX12_holds_259 (by decide) ?_
              exact z_dr (ls' := [some (.ref q0), some (.int x1), none, some (.int x3), some (.int (x4 + 1)), some (.int (x5 + 1)), none]) ⟨rfl, rfl, rfl, rfl, rfl, trivial⟩ h
            · have h := h.2 hc
              refine z_iconst (x := 1) (pc' := 248) dX12_holds_247 (by decide) rfl ?_
              refine z_goto (pc' := 252) dX12_holds_248 (by decide) ?_
              obtain ⟨h1, h2, h⟩ := h
              obtain ⟨G2, hG⟩ : ∃ z, z = zsi G (zrv G q0 22) x4.toNatClampNeg 1 := ⟨_, rfl⟩
              have h := h _ hG
              refine z_zast (pc' := 253) dX12_holds_252 rfl h1 h2 zok_1 ?_
              refine z_st hG ?_
              refine z_iinc (y := x4 + 1) (pc' := 256) dX12_holds_253 rfl (zinc_1 _) (by decide) rfl ?_
              refine z_iinc (y := x5 + 1) (pc' := 259) dX12_holds_256 rfl (zinc_1 _) (by decide) rfl ?_
              refine z_goto (pc' := 12) dX12_holds_259 (by decide) ?_
              exact z_dr (ls' := [some (.ref q0), some (.int x1), none, some (.int x3), some (.int (x4 + 1)), some (.int (x5 + 1)), none]) ⟨rfl, rfl, rfl, rfl, rfl, trivial⟩ h
          · have h := h.2 hc
            refine z_iload (pc' := 217) dX12_holds_215 rfl rfl ?_
            refine z_aload_n (pc' := 218) dX12_holds_217 rfl rfl ?_
            obtain ⟨h1, h⟩ := h
            refine z_getR (ci := 13) (kf := 18) (pc' := 221) dX12_holds_218 kX12_45 (Or.inl rfl) (by decide) (by decide) rfl rfl h1 ?_
            refine z_iload (pc' := 223) dX12_holds_221 rfl rfl ?_
            obtain ⟨h1, h2, h⟩ := h
            refine z_iald (pc' := 224) dX12_holds_223 rfl h1 h2 ?_
            refine z_icmp_ge (pt := 231) (pc' := 227) dX12_holds_224 (by decide) rfl (fun hc => ?_) (fun hc => ?_)
            · have h := h.1 hc
              refine z_iconst (x := 0) (pc' := 232) dX12_holds_231 (by decide) rfl ?_
              refine z_goto (pc' := 252) dX12_holds_232 (by decide) ?_
              obtain ⟨h1, h2, h⟩ := h
              obtain ⟨G3, hG⟩ : ∃ z, z = zsi G (zrv G q0 22) x4.toNatClampNeg 0 := ⟨_, rfl⟩
              have h := h _ hG
              refine z_zast (pc' := 253) dX12_holds_252 rfl h1 h2 zok_0 ?_
              refine z_st hG ?_
              refine z_iinc (y := x4 + 1) (pc' := 256) dX12_holds_253 rfl (zinc_1 _) (by decide) rfl ?_
              refine z_iinc (y := x5 + 1) (pc' := 259) dX12_holds_256 rfl (zinc_1 _) (by decide) rfl ?_
              refine z_goto (pc' := 12) dX12_holds_259 (by decide) ?_
              exact z_dr (ls' := [some (.ref q0), some (.int x1), none, some (.int x3), some (.int (x4 + 1)), some (.int (x5 + 1)), none]) ⟨rfl, rfl, rfl, rfl, rfl, trivial⟩ h
            · have h := h.2 hc
              refine z_iconst (x := 1) (pc' := 228) dX12_holds_227 (by decide) rfl ?_
              refine z_goto (pc' := 252) dX12_holds_228 (by decide) ?_
              obtain ⟨h1, h2, h⟩ := h
              obtain ⟨G4, hG⟩ : ∃ z, z = zsi G (zrv G q0 22) x4.toNatClampNeg 1 := ⟨_, rfl⟩
              have h := h _ hG
              refine z_zast (pc' := 253) dX12_holds_252 rfl h1 h2 zok_1 ?_
              refine z_st hG ?_
              refine z_iinc (y := x4 + 1) (pc' := 256) dX12_holds_253 rfl (zinc_1 _) (by decide) rfl ?_
              refine z_iinc (y := x5 + 1) (pc' := 259) dX12_holds_256 rfl (zinc_1 _) (by decide) rfl ?_
              refine z_goto (pc' := 12) dX12_holds_259 (by decide) ?_
              exact z_dr (ls' := [some (.ref q0), some (.int x1), none, some (.int x3), some (.int (x4 + 1)), some (.int (x5 + 1)), none]) ⟨rfl, rfl, rfl, rfl, rfl, trivial⟩ h
        · have h := h.2 hc
          refine z_iload (pc' := 193) dX12_holds_191 rfl rfl ?_
          refine z_if_eq (pt := 200) (pc' := 196) dX12_holds_193 (by decide) rfl (fun hc => ?_) (fun hc => ?_)
          · have h := h.1 hc
            refine z_iconst (x := 0) (pc' := 201) dX12_holds_200 (by decide) rfl ?_
            refine z_goto (pc' := 252) dX12_holds_201 (by decide) ?_
            obtain ⟨h1, h2, h⟩ := h
            obtain ⟨G5, hG⟩ : ∃ z, z = zsi G (zrv G q0 22) x4.toNatClampNeg 0 := ⟨_, rfl⟩
            have h := h _ hG
            refine z_zast (pc' := 253) dX12_holds_252 rfl h1 h2 zok_0 ?_
            refine z_st hG ?_
            refine z_iinc (y := x4 + 1) (pc' := 256) dX12_holds_253 rfl (zinc_1 _) (by decide) rfl ?_
            refine z_iinc (y := x5 + 1) (pc' := 259) dX12_holds_256 rfl (zinc_1 _) (by decide) rfl ?_
            refine z_goto (pc' := 12) dX12_holds_259 (by decide) ?_
            exact z_dr (ls' := [some (.ref q0), some (.int x1), none, some (.int x3), some (.int (x4 + 1)), some (.int (x5 + 1)), none]) ⟨rfl, rfl, rfl, rfl, rfl, trivial⟩ h
          · have h := h.2 hc
            refine z_iconst (x := 1) (pc' := 197) dX12_holds_196 (by decide) rfl ?_
            refine z_goto (pc' := 252) dX12_holds_197 (by decide) ?_
            obtain ⟨h1, h2, h⟩ := h
            obtain ⟨G6, hG⟩ : ∃ z, z = zsi G (zrv G q0 22) x4.toNatClampNeg 1 := ⟨_, rfl⟩
            have h := h _ hG
            refine z_zast (pc' := 253) dX12_holds_252 rfl h1 h2 zok_1 ?_
            refine z_st hG ?_
            refine z_iinc (y := x4 + 1) (pc' := 256) dX12_holds_253 rfl (zinc_1 _) (by decide) rfl ?_
            refine z_iinc (y := x5 + 1) (pc' := 259) dX12_holds_256 rfl (zinc_1 _) (by decide) rfl ?_
            refine z_goto (pc' := 12) dX12_holds_259 (by decide) ?_
            exact z_dr (ls' := [some (.ref q0), some (.int x1), none, some (.int x3), some (.int (x4 + 1)), some (.int (x5 + 1)), none]) ⟨rfl, rfl, rfl, rfl, rfl, trivial⟩ h
      · have h := h.2 hc
        refine z_iinc (y := x4 + (-1)) (pc' := 80) dX12_holds_77 rfl (zinc_m1 _) (by decide) rfl ?_
        refine z_aload_n (pc' := 81) dX12_holds_80 rfl rfl ?_
        obtain ⟨h1, h⟩ := h
        refine z_getR (ci := 13) (kf := 22) (pc' := 84) dX12_holds_81 kX12_51 (Or.inl rfl) (by decide) (by decide) rfl rfl h1 ?_
        refine z_iload (pc' := 86) dX12_holds_84 rfl rfl ?_
        refine z_iconst (x := 1) (pc' := 87) dX12_holds_86 (by decide) rfl ?_
        refine z_isub (pc' := 88) dX12_holds_87 rfl rfl ?_
        refine z_aload_n (pc' := 89) dX12_holds_88 rfl rfl ?_
        obtain ⟨h1, h⟩ := h
        refine z_getR (ci := 13) (kf := 16) (pc' := 92) dX12_holds_89 kX12_39 (Or.inl rfl) (by decide) (by decide) rfl rfl h1 ?_
        refine z_iload (pc' := 94) dX12_holds_92 rfl rfl ?_
        obtain ⟨h1, h2, h⟩ := h
        refine z_iald (pc' := 95) dX12_holds_94 rfl h1 h2 ?_
        refine z_bipush (x := 101) (pc' := 97) dX12_holds_95 (by decide) rfl ?_
        refine z_icmp_ne (pt := 130) (pc' := 100) dX12_holds_97 (by decide) rfl (fun hc => ?_) (fun hc => ?_)
        · have h := h.1 hc
          refine z_aload_n (pc' := 131) dX12_holds_130 rfl rfl ?_
          obtain ⟨h1, h⟩ := h
          refine z_getR (ci := 13) (kf := 22) (pc' := 134) dX12_holds_131 kX12_51 (Or.inl rfl) (by decide) (by decide) rfl rfl h1 ?_
          refine z_iload (pc' := 136) dX12_holds_134 rfl rfl ?_
          refine z_iconst (x := 1) (pc' := 137) dX12_holds_136 (by decide) rfl ?_
          refine z_isub (pc' := 138) dX12_holds_137 rfl rfl ?_
          obtain ⟨h1, h2, h⟩ := h
          refine z_zald (pc' := 139) dX12_holds_138 rfl h1 h2 ?_
          refine z_if_ne (pt := 152) (pc' := 142) dX12_holds_139 (by decide) rfl (fun hc => ?_) (fun hc => ?_)
          · have h := h.1 hc
            refine z_iconst (x := 1) (pc' := 153) dX12_holds_152 (by decide) rfl ?_
            refine z_goto (pc' := 157) dX12_holds_153 (by decide) ?_
            obtain ⟨h1, h2, h⟩ := h
            obtain ⟨G7, hG⟩ : ∃ z, z = zsi G (zrv G q0 22) ((x4 + (-1)) - 1).toNatClampNeg 1 := ⟨_, rfl⟩
            have h := h _ hG
            refine z_zast (pc' := 158) dX12_holds_157 rfl h1 h2 zok_1 ?_
            refine z_st hG ?_
            refine z_goto (pc' := 256) dX12_holds_158 (by decide) ?_
            refine z_iinc (y := x5 + 1) (pc' := 259) dX12_holds_256 rfl (zinc_1 _) (by decide) rfl ?_
            refine z_goto (pc' := 12) dX12_holds_259 (by decide) ?_
            exact z_dr (ls' := [some (.ref q0), some (.int x1), none, some (.int x3), some (.int (x4 + (-1))), some (.int (x5 + 1)), none]) ⟨rfl, rfl, rfl, rfl, rfl, trivial⟩ h
          · have h := h.2 hc
            refine z_aload_n (pc' := 143) dX12_holds_142 rfl rfl ?_
            obtain ⟨h1, h⟩ := h
            refine z_getR (ci := 13) (kf := 22) (pc' := 146) dX12_holds_143 kX12_51 (Or.inl rfl) (by decide) (by decide) rfl rfl h1 ?_
            refine z_iload (pc' := 148) dX12_holds_146 rfl rfl ?_
            obtain ⟨h1, h2, h⟩ := h
            refine z_zald (pc' := 149) dX12_holds_148 rfl h1 h2 ?_
            refine z_if_eq (pt := 156) (pc' := 152) dX12_holds_149 (by decide) rfl (fun hc => ?_) (fun hc => ?_)
            · have h := h.1 hc
              refine z_iconst (x := 0) (pc' := 157) dX12_holds_156 (by decide) rfl ?_
              obtain ⟨h1, h2, h⟩ := h
              obtain ⟨G8, hG⟩ : ∃ z, z = zsi G (zrv G q0 22) ((x4 + (-1)) - 1).toNatClampNeg 0 := ⟨_, rfl⟩
              have h := h _ hG
              refine z_zast (pc' := 158) dX12_holds_157 rfl h1 h2 zok_0 ?_
              refine z_st hG ?_
              refine z_goto (pc' := 256) dX12_holds_158 (by decide) ?_
              refine z_iinc (y := x5 + 1) (pc' := 259) dX12_holds_256 rfl (zinc_1 _) (by decide) rfl ?_
              refine z_goto (pc' := 12) dX12_holds_259 (by decide) ?_
              exact z_dr (ls' := [some (.ref q0), some (.int x1), none, some (.int x3), some (.int (x4 + (-1))), some (.int (x5 + 1)), none]) ⟨rfl, rfl, rfl, rfl, rfl, trivial⟩ h
            · have h := h.2 hc
              refine z_iconst (x := 1) (pc' := 153) dX12_holds_152 (by decide) rfl ?_
              refine z_goto (pc' := 157) dX12_holds_153 (by decide) ?_
              obtain ⟨h1, h2, h⟩ := h
              obtain ⟨G9, hG⟩ : ∃ z, z = zsi G (zrv G q0 22) ((x4 + (-1)) - 1).toNatClampNeg 1 := ⟨_, rfl⟩
              have h := h _ hG
              refine z_zast (pc' := 158) dX12_holds_157 rfl h1 h2 zok_1 ?_
              refine z_st hG ?_
              refine z_goto (pc' := 256) dX12_holds_158 (by decide) ?_
              refine z_iinc (y := x5 + 1) (pc' := 259) dX12_holds_256 rfl (zinc_1 _) (by decide) rfl ?_
              refine z_goto (pc' := 12) dX12_holds_259 (by decide) ?_
              exact z_dr (ls' := [some (.ref q0), some (.int x1), none, some (.int x3), some (.int (x4 + (-1))), some (.int (x5 + 1)), none]) ⟨rfl, rfl, rfl, rfl, rfl, trivial⟩ h
        · have h := h.2 hc
          refine z_aload_n (pc' := 101) dX12_holds_100 rfl rfl ?_
          obtain ⟨h1, h⟩ := h
          refine z_getR (ci := 13) (kf := 22) (pc' := 104) dX12_holds_101 kX12_51 (Or.inl rfl) (by decide) (by decide) rfl rfl h1 ?_
          refine z_iload (pc' := 106) dX12_holds_104 rfl rfl ?_
          refine z_iconst (x := 1) (pc' := 107) dX12_holds_106 (by decide) rfl ?_
          refine z_isub (pc' := 108) dX12_holds_107 rfl rfl ?_
          obtain ⟨h1, h2, h⟩ := h
          refine z_zald (pc' := 109) dX12_holds_108 rfl h1 h2 ?_
          refine z_if_eq (pt := 126) (pc' := 112) dX12_holds_109 (by decide) rfl (fun hc => ?_) (fun hc => ?_)
          · have h := h.1 hc
            refine z_iconst (x := 0) (pc' := 127) dX12_holds_126 (by decide) rfl ?_
            refine z_goto (pc' := 157) dX12_holds_127 (by decide) ?_
            obtain ⟨h1, h2, h⟩ := h
            obtain ⟨G10, hG⟩ : ∃ z, z = zsi G (zrv G q0 22) ((x4 + (-1)) - 1).toNatClampNeg 0 := ⟨_, rfl⟩
            have h := h _ hG
            refine z_zast (pc' := 158) dX12_holds_157 rfl h1 h2 zok_0 ?_
            refine z_st hG ?_
            refine z_goto (pc' := 256) dX12_holds_158 (by decide) ?_
            refine z_iinc (y := x5 + 1) (pc' := 259) dX12_holds_256 rfl (zinc_1 _) (by decide) rfl ?_
            refine z_goto (pc' := 12) dX12_holds_259 (by decide) ?_
            exact z_dr (ls' := [some (.ref q0), some (.int x1), none, some (.int x3), some (.int (x4 + (-1))), some (.int (x5 + 1)), none]) ⟨rfl, rfl, rfl, rfl, rfl, trivial⟩ h
          · have h := h.2 hc
            refine z_aload_n (pc' := 113) dX12_holds_112 rfl rfl ?_
            obtain ⟨h1, h⟩ := h
            refine z_getR (ci := 13) (kf := 22) (pc' := 116) dX12_holds_113 kX12_51 (Or.inl rfl) (by decide) (by decide) rfl rfl h1 ?_
            refine z_iload (pc' := 118) dX12_holds_116 rfl rfl ?_
            obtain ⟨h1, h2, h⟩ := h
            refine z_zald (pc' := 119) dX12_holds_118 rfl h1 h2 ?_
            refine z_if_eq (pt := 126) (pc' := 122) dX12_holds_119 (by decide) rfl (fun hc => ?_) (fun hc => ?_)
            · have h := h.1 hc
              refine z_iconst (x := 0) (pc' := 127) dX12_holds_126 (by decide) rfl ?_
              refine z_goto (pc' := 157) dX12_holds_127 (by decide) ?_
              obtain ⟨h1, h2, h⟩ := h
              obtain ⟨G11, hG⟩ : ∃ z, z = zsi G (zrv G q0 22) ((x4 + (-1)) - 1).toNatClampNeg 0 := ⟨_, rfl⟩
              have h := h _ hG
              refine z_zast (pc' := 158) dX12_holds_157 rfl h1 h2 zok_0 ?_
              refine z_st hG ?_
              refine z_goto (pc' := 256) dX12_holds_158 (by decide) ?_
              refine z_iinc (y := x5 + 1) (pc' := 259) dX12_holds_256 rfl (zinc_1 _) (by decide) rfl ?_
              refine z_goto (pc' := 12) dX12_holds_259 (by decide) ?_
              exact z_dr (ls' := [some (.ref q0), some (.int x1), none, some (.int x3), some (.int (x4 + (-1))), some (.int (x5 + 1)), none]) ⟨rfl, rfl, rfl, rfl, rfl, trivial⟩ h
            · have h := h.2 hc
              refine z_iconst (x := 1) (pc' := 123) dX12_holds_122 (by decide) rfl ?_
              refine z_goto (pc' := 157) dX12_holds_123 (by decide) ?_
              obtain ⟨h1, h2, h⟩ := h
              obtain ⟨G12, hG⟩ : ∃ z, z = zsi G (zrv G q0 22) ((x4 + (-1)) - 1).toNatClampNeg 1 := ⟨_, rfl⟩
              have h := h _ hG
              refine z_zast (pc' := 158) dX12_holds_157 rfl h1 h2 zok_1 ?_
              refine z_st hG ?_
              refine z_goto (pc' := 256) dX12_holds_158 (by decide) ?_
              refine z_iinc (y := x5 + 1) (pc' := 259) dX12_holds_256 rfl (zinc_1 _) (by decide) rfl ?_
              refine z_goto (pc' := 12) dX12_holds_259 (by decide) ?_
              exact z_dr (ls' := [some (.ref q0), some (.int x1), none, some (.int x3), some (.int (x4 + (-1))), some (.int (x5 + 1)), none]) ⟨rfl, rfl, rfl, rfl, rfl, trivial⟩ h
    · have h := h.2 hc
      refine z_aload_n (pc' := 37) dX12_holds_36 rfl rfl ?_
      obtain ⟨h1, h⟩ := h
      refine z_getR (ci := 13) (kf := 22) (pc' := 40) dX12_holds_37 kX12_51 (Or.inl rfl) (by decide) (by decide) rfl rfl h1 ?_
      refine z_iload (pc' := 42) dX12_holds_40 rfl rfl ?_
      refine z_iconst (x := 1) (pc' := 43) dX12_holds_42 (by decide) rfl ?_
      refine z_isub (pc' := 44) dX12_holds_43 rfl rfl ?_
      refine z_aload_n (pc' := 45) dX12_holds_44 rfl rfl ?_
      obtain ⟨h1, h⟩ := h
      refine z_getR (ci := 13) (kf := 22) (pc' := 48) dX12_holds_45 kX12_51 (Or.inl rfl) (by decide) (by decide) rfl rfl h1 ?_
      refine z_iload (pc' := 50) dX12_holds_48 rfl rfl ?_
      refine z_iconst (x := 1) (pc' := 51) dX12_holds_50 (by decide) rfl ?_
      refine z_isub (pc' := 52) dX12_holds_51 rfl rfl ?_
      obtain ⟨h1, h2, h⟩ := h
      refine z_zald (pc' := 53) dX12_holds_52 rfl h1 h2 ?_
      refine z_if_ne (pt := 60) (pc' := 56) dX12_holds_53 (by decide) rfl (fun hc => ?_) (fun hc => ?_)
      · have h := h.1 hc
        refine z_iconst (x := 0) (pc' := 61) dX12_holds_60 (by decide) rfl ?_
        obtain ⟨h1, h2, h⟩ := h
        obtain ⟨G13, hG⟩ : ∃ z, z = zsi G (zrv G q0 22) (x4 - 1).toNatClampNeg 0 := ⟨_, rfl⟩
        have h := h _ hG
        refine z_zast (pc' := 62) dX12_holds_61 rfl h1 h2 zok_0 ?_
        refine z_st hG ?_
        refine z_goto (pc' := 256) dX12_holds_62 (by decide) ?_
        refine z_iinc (y := x5 + 1) (pc' := 259) dX12_holds_256 rfl (zinc_1 _) (by decide) rfl ?_
        refine z_goto (pc' := 12) dX12_holds_259 (by decide) ?_
        exact z_dr (ls' := [some (.ref q0), some (.int x1), none, some (.int x3), some (.int x4), some (.int (x5 + 1)), none]) ⟨rfl, rfl, rfl, rfl, rfl, trivial⟩ h
      · have h := h.2 hc
        refine z_iconst (x := 1) (pc' := 57) dX12_holds_56 (by decide) rfl ?_
        refine z_goto (pc' := 61) dX12_holds_57 (by decide) ?_
        obtain ⟨h1, h2, h⟩ := h
        obtain ⟨G14, hG⟩ : ∃ z, z = zsi G (zrv G q0 22) (x4 - 1).toNatClampNeg 1 := ⟨_, rfl⟩
        have h := h _ hG
        refine z_zast (pc' := 62) dX12_holds_61 rfl h1 h2 zok_1 ?_
        refine z_st hG ?_
        refine z_goto (pc' := 256) dX12_holds_62 (by decide) ?_
        refine z_iinc (y := x5 + 1) (pc' := 259) dX12_holds_256 rfl (zinc_1 _) (by decide) rfl ?_
        refine z_goto (pc' := 12) dX12_holds_259 (by decide) ?_
        exact z_dr (ls' := [some (.ref q0), some (.int x1), none, some (.int x3), some (.int x4), some (.int (x5 + 1)), none]) ⟨rfl, rfl, rfl, rfl, rfl, trivial⟩ h
def wp_X12_in_0 (E : ZE) (l : Launch) (d b : Nat) (G0 : ZG) (Q : ZQ) (k : Nat) (x0 : Int32) (x1 : Int32) (x2 : Int32) (G : ZG) : Prop :=
  ((x0 < x1 →
    Q (.inl (some (.int 0))) G) ∧
  (¬ (x0 < x1) →
    ((x2 < x0 →
      Q (.inl (some (.int 0))) G) ∧
    (¬ (x2 < x0) →
      Q (.inl (some (.int 1))) G))))
theorem wpt_X12_in_0 {E : ZE} {l : Launch} {d b : Nat} {G0 : ZG} {Q : ZQ} {k : Nat} {x0 : Int32} {x1 : Int32} {x2 : Int32} {G : ZG} (h : wp_X12_in_0 E l d b G0 Q k x0 x1 x2 G) : zW E l mX12_in d b G0 Q k 0 [some (.int x0), some (.int x1), some (.int x2)] [] G := by
  unfold wp_X12_in_0 at h
  refine z_iload_n (pc' := 1) dX12_in_0 rfl rfl ?_
  refine z_iload_n (pc' := 2) dX12_in_1 rfl rfl ?_
  refine z_icmp_lt (pt := 14) (pc' := 5) dX12_in_2 (by decide) rfl (fun hc => ?_) (fun hc => ?_)
  · have h := h.1 hc
    refine z_iconst (x := 0) (pc' := 15) dX12_in_14 (by decide) rfl ?_
    exact z_zret (ty := .boolean) dX12_in_15 rfl (by decide) h
  · have h := h.2 hc
    refine z_iload_n (pc' := 6) dX12_in_5 rfl rfl ?_
    refine z_iload_n (pc' := 7) dX12_in_6 rfl rfl ?_
    refine z_icmp_gt (pt := 14) (pc' := 10) dX12_in_7 (by decide) rfl (fun hc => ?_) (fun hc => ?_)
    · have h := h.1 hc
      refine z_iconst (x := 0) (pc' := 15) dX12_in_14 (by decide) rfl ?_
      exact z_zret (ty := .boolean) dX12_in_15 rfl (by decide) h
    · have h := h.2 hc
      refine z_iconst (x := 1) (pc' := 11) dX12_in_10 (by decide) rfl ?_
      refine z_goto (pc' := 15) dX12_in_11 (by decide) ?_
      exact z_zret (ty := .boolean) dX12_in_15 rfl (by decide) h
def wp_X12_inState_0 (E : ZE) (l : Launch) (d b : Nat) (G0 : ZG) (Q : ZQ) (k : Nat) (q0 : Nat) (x1 : Int32) (x2 : Int32) (G : ZG) : Prop :=
  zW E l mX12_inState d b G0 Q k 5 [some (.ref q0), some (.int x1), some (.int x2), some (.int 0), some (.int 0)] [] G
theorem wpt_X12_inState_0 {E : ZE} {l : Launch} {d b : Nat} {G0 : ZG} {Q : ZQ} {k : Nat} {q0 : Nat} {x1 : Int32} {x2 : Int32} {G : ZG} (h : wp_X12_inState_0 E l d b G0 Q k q0 x1 x2 G) : zW E l mX12_inState d b G0 Q k 0 [some (.ref q0), some (.int x1), some (.int x2), none, none] [] G := by
  unfold wp_X12_inState_0 at h
  refine z_iconst (x := 0) (pc' := 1) dX12_inState_0 (by decide) rfl ?_
  refine z_istore_n (pc' := 2) dX12_inState_1 (by decide) rfl ?_
  refine z_iconst (x := 0) (pc' := 3) dX12_inState_2 (by decide) rfl ?_
  refine z_istore (pc' := 5) dX12_inState_3 (by decide) rfl ?_
  exact z_dr (ls' := [some (.ref q0), some (.int x1), some (.int x2), some (.int 0), some (.int 0)]) ⟨rfl, rfl, rfl, rfl, rfl, trivial⟩ h
def wp_X12_inState_5 (E : ZE) (l : Launch) (d b : Nat) (G0 : ZG) (Q : ZQ) (k : Nat) (q0 : Nat) (x1 : Int32) (x2 : Int32) (x3 : Int32) (x4 : Int32) (G : ZG) : Prop :=
  zob G q0 13 ∧
  (((ziv G q0 66) ≤ x4 →
    Q (.inl (some (.int x3))) G) ∧
  (¬ ((ziv G q0 66) ≤ x4) →
    zob G q0 13 ∧
    xcI E l mX12_now d [.ref q0, .int x4, .int 0] G k (fun X G9 => Q (.inr X) G9) (fun y1 G2 k3 =>
    xcI E l mX12_in d [.int y1, .int x1, .int x2] G2 k3 (fun X G9 => Q (.inr X) G9) (fun y4 G5 k6 =>
    ((y4 = 0 →
      zW E l mX12_inState d b G0 Q k6 5 [some (.ref q0), some (.int x1), some (.int x2), some (.int (x3 + 0)), some (.int (x4 + 1))] [] G5) ∧
    (¬ (y4 = 0) →
      zW E l mX12_inState d b G0 Q k6 5 [some (.ref q0), some (.int x1), some (.int x2), some (.int (x3 + 1)), some (.int (x4 + 1))] [] G5))))))
theorem wpt_X12_inState_5 {E : ZE} {l : Launch} {d b : Nat} {G0 : ZG} {Q : ZQ} {k : Nat} {q0 : Nat} {x1 : Int32} {x2 : Int32} {x3 : Int32} {x4 : Int32} {G : ZG} (h : wp_X12_inState_5 E l d b G0 Q k q0 x1 x2 x3 x4 G) : zW E l mX12_inState d b G0 Q k 5 [some (.ref q0), some (.int x1), some (.int x2), some (.int x3), some (.int x4)] [] G := by
  unfold wp_X12_inState_5 at h
  refine z_iload (pc' := 7) dX12_inState_5 rfl rfl ?_
  refine z_aload_n (pc' := 8) dX12_inState_7 rfl rfl ?_
  obtain ⟨h1, h⟩ := h
  refine z_getI (ci := 13) (kf := 66) (pc' := 11) dX12_inState_8 kX12_412 (Or.inl rfl) (by decide) (by decide) rfl rfl h1 ?_
  refine z_icmp_ge (pt := 43) (pc' := 14) dX12_inState_11 (by decide) rfl (fun hc => ?_) (fun hc => ?_)
  · have h := h.1 hc
    refine z_iload_n (pc' := 44) dX12_inState_43 rfl rfl ?_
    exact z_iret dX12_inState_44 rfl h
  · have h := h.2 hc
    refine z_iload_n (pc' := 15) dX12_inState_14 rfl rfl ?_
    refine z_aload_n (pc' := 16) dX12_inState_15 rfl rfl ?_
    refine z_iload (pc' := 18) dX12_inState_16 rfl rfl ?_
    refine z_iconst (x := 0) (pc' := 19) dX12_inState_18 (by decide) rfl ?_
    obtain ⟨h1, h⟩ := h
    obtain ⟨d1, b1, Qz, hm, hdd, hb, hkx, hk⟩ := h
    refine z_callV (Y := mX12_now) (n := 2) (as := [.int x4, .int 0]) (st := [.int x3]) (pc' := 22) (ci := 13) (q := q0) hm dX12_inState_19 kX12_434 vX12_now rfl rfl (by decide) rfl h1 hdd hb (Nat.le_of_ble_eq_true rfl) (fun r G2 hz => ?_) hkx
    obtain ⟨y1, rfl, h⟩ := hk r G2 hz
    refine z_iload_n (pc' := 23) dX12_inState_22 rfl rfl ?_
    refine z_iload_n (pc' := 24) dX12_inState_23 rfl rfl ?_
    obtain ⟨d1, b1, Qz, hm, hdd, hb, hkx, hk⟩ := h
    refine z_callS (Y := mX12_in) (n := 3) (as := [.int y1, .int x1, .int x2]) (st := [.int x3]) (pc' := 27) hm dX12_inState_24 kX12_317 sX12_in rfl rfl hdd hb (Nat.le_of_ble_eq_true rfl) (fun r G5 hz => ?_) hkx
    obtain ⟨y4, rfl, h⟩ := hk r G5 hz
    refine z_if_eq (pt := 34) (pc' := 30) dX12_inState_27 (by decide) rfl (fun hc => ?_) (fun hc => ?_)
    · have h := h.1 hc
      refine z_iconst (x := 0) (pc' := 35) dX12_inState_34 (by decide) rfl ?_
      refine z_iadd (pc' := 36) dX12_inState_35 rfl rfl ?_
      refine z_istore_n (pc' := 37) dX12_inState_36 (by decide) rfl ?_
      refine z_iinc (y := x4 + 1) (pc' := 40) dX12_inState_37 rfl (zinc_1 _) (by decide) rfl ?_
      refine z_goto (pc' := 5) dX12_inState_40 (by decide) ?_
      exact z_dr (ls' := [some (.ref q0), some (.int x1), some (.int x2), some (.int (x3 + 0)), some (.int (x4 + 1))]) ⟨rfl, rfl, rfl, rfl, rfl, trivial⟩ h
    · have h := h.2 hc
      refine z_iconst (x := 1) (pc' := 31) dX12_inState_30 (by decide) rfl ?_
      refine z_goto (pc' := 35) dX12_inState_31 (by decide) ?_
      refine z_iadd (pc' := 36) dX12_inState_35 rfl rfl ?_
      refine z_istore_n (pc' := 37) dX12_inState_36 (by decide) rfl ?_
      refine z_iinc (y := x4 + 1) (pc' := 40) dX12_inState_37 rfl (zinc_1 _) (by decide) rfl ?_
      refine z_goto (pc' := 5) dX12_inState_40 (by decide) ?_
      exact z_dr (ls' := [some (.ref q0), some (.int x1), some (.int x2), some (.int (x3 + 1)), some (.int (x4 + 1))]) ⟨rfl, rfl, rfl, rfl, rfl, trivial⟩ h
