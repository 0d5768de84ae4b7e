/-! what the methods come to -/
def wp_X12_judges_0 (E : ZE) (l : Launch) (d b : Nat) (G0 : ZG) (Q : ZQ) (k : Nat) (q0 : Nat) (x1 : Int32) (x2 : Int32) (x3 : Int32) (x4 : Int32) (G : ZG) : Prop :=
  zob G q0 13 ∧
  zob G q0 13 ∧
  zob G q0 13 ∧
  (zar G (zrv G q0 29) 0 ∨ zrd G (zrv G q0 29) .int) ∧ vp_in x1 (zln G (zrv G q0 29)) ∧
  xcI E l mJ9_floorDiv_7cf53 d [.int ((ziv G q0 1) - (ziv G (zrv G q0 29) x1.toNatClampNeg)), .int 365] G k (fun X G9 => Q (.inr X) G9) (fun y1 G2 k3 =>
  zar G2 (zrv G q0 21) 0 ∧ vp_in 0 (zln G2 (zrv G q0 21)) ∧
  ∀ G4, G4 = zsi G2 (zrv G q0 21) (0 : Int32).toNatClampNeg y1 →
  zob G4 q0 13 ∧
  zob G4 q0 13 ∧
  zar G4 (zrv G4 q0 21) 0 ∧ vp_in 1 (zln G4 (zrv G4 q0 21)) ∧
  ∀ G5, G5 = zsi G4 (zrv G4 q0 21) (1 : Int32).toNatClampNeg (x3 - (ziv G4 q0 1)) →
  zob G5 q0 13 ∧
  zob G5 q0 13 ∧
  zob G5 q0 13 ∧
  xcI E l mX12_validOf d [.ref q0, .int x1, .int (ziv G5 q0 1)] G5 k3 (fun X G9 => Q (.inr X) G9) (fun y6 G7 k8 =>
  zar G7 (zrv G5 q0 21) 0 ∧ vp_in 2 (zln G7 (zrv G5 q0 21)) ∧
  ∀ G9, G9 = zsi G7 (zrv G5 q0 21) (2 : Int32).toNatClampNeg y6 →
  zob G9 q0 13 ∧
  zob G9 q0 13 ∧
  zar G9 (zrv G9 q0 30) 2 ∧ vp_in x1 (zln G9 (zrv G9 q0 30)) ∧
  (((ziv G9 (zrv G9 q0 30) x1.toNatClampNeg) = 0 →
    zar G9 (zrv G9 q0 21) 0 ∧ vp_in 3 (zln G9 (zrv G9 q0 21)) ∧
    ∀ G10, G10 = zsi G9 (zrv G9 q0 21) (3 : Int32).toNatClampNeg 0 →
    zW E l mX12_judges d b G0 Q k8 73 [some (.ref q0), none, some (.int x2), none, some (.int x4), some (.int 0), none, none] [] G10) ∧
  (¬ ((ziv G9 (zrv G9 q0 30) x1.toNatClampNeg) = 0) →
    zar G9 (zrv G9 q0 21) 0 ∧ vp_in 3 (zln G9 (zrv G9 q0 21)) ∧
    ∀ G11, G11 = zsi G9 (zrv G9 q0 21) (3 : Int32).toNatClampNeg 1 →
    zW E l mX12_judges d b G0 Q k8 73 [some (.ref q0), none, some (.int x2), none, some (.int x4), some (.int 0), none, none] [] G11))))
theorem wpt_X12_judges_0 {E : ZE} {l : Launch} {d b : Nat} {G0 : ZG} {Q : ZQ} {k : Nat} {q0 : Nat} {x1 : Int32} {x2 : Int32} {x3 : Int32} {x4 : Int32} {G : ZG} (h : wp_X12_judges_0 E l d b G0 Q k q0 x1 x2 x3 x4 G) : zW E l mX12_judges d b G0 Q k 0 [some (.ref q0), some (.int x1), some (.int x2), some (.int x3), some (.int x4), none, none, none] [] G := by
  unfold wp_X12_judges_0 at h
  refine z_aload_n (pc' := 1) dX12_judges_0 rfl rfl ?_
  obtain ⟨h1, h⟩ := h
  refine z_getR (ci := 13) (kf := 21) (pc' := 4) dX12_judges_1 kX12_48 (Or.inl rfl) (by decide) (by decide) rfl rfl h1 ?_
  refine z_iconst (x := 0) (pc' := 5) dX12_judges_4 (by decide) rfl ?_
  refine z_aload_n (pc' := 6) dX12_judges_5 rfl rfl ?_
  obtain ⟨h1, h⟩ := h
  refine z_getI (ci := 13) (kf := 1) (pc' := 9) dX12_judges_6 kX12_314 (Or.inl rfl) (by decide) (by decide) rfl rfl h1 ?_
  refine z_aload_n (pc' := 10) dX12_judges_9 rfl rfl ?_
  obtain ⟨h1, h⟩ := h
  refine z_getR (ci := 13) (kf := 29) (pc' := 13) dX12_judges_10 kX12_55 (Or.inl rfl) (by decide) (by decide) rfl rfl h1 ?_
  refine z_iload_n (pc' := 14) dX12_judges_13 rfl rfl ?_
  obtain ⟨h1, h2, h⟩ := h
  refine z_iald (pc' := 15) dX12_judges_14 rfl h1 h2 ?_
  refine z_isub (pc' := 16) dX12_judges_15 rfl rfl ?_
  refine z_sipush (x := 365) (pc' := 19) dX12_judges_16 (by decide) rfl ?_
  obtain ⟨d1, b1, Qz, hm, hdd, hb, hkx, hk⟩ := h
  refine z_callS (Y := mJ9_floorDiv_7cf53) (n := 2) (as := [.int ((ziv G q0 1) - (ziv G (zrv G q0 29) x1.toNatClampNeg)), .int 365]) (st := [.int 0, .ref (zrv G q0 21)]) (pc' := 22) hm dX12_judges_19 kX12_331 sJ9_floorDiv_7cf53 rfl rfl hdd hb (Nat.le_of_ble_eq_true rfl) (fun r G2 hz => ?_) hkx
  obtain ⟨y1, rfl, h⟩ := hk r G2 hz
  obtain ⟨h1, h2, h⟩ := h
  obtain ⟨G4, hG⟩ : ∃ z, z = zsi G2 (zrv G q0 21) (0 : Int32).toNatClampNeg y1 := ⟨_, rfl⟩
  have h := h _ hG
  refine z_iast (pc' := 23) dX12_judges_22 rfl h1 h2  ?_
  refine z_st hG ?_
  refine z_aload_n (pc' := 24) dX12_judges_23 rfl rfl ?_
  obtain ⟨h1, h⟩ := h
  refine z_getR (ci := 13) (kf := 21) (pc' := 27) dX12_judges_24 kX12_48 (Or.inl rfl) (by decide) (by decide) rfl rfl h1 ?_
  refine z_iconst (x := 1) (pc' := 28) dX12_judges_27 (by decide) rfl ?_
  refine z_iload_n (pc' := 29) dX12_judges_28 rfl rfl ?_
  refine z_aload_n (pc' := 30) dX12_judges_29 rfl rfl ?_
  obtain ⟨h1, h⟩ := h
  refine z_getI (ci := 13) (kf := 1) (pc' := 33) dX12_judges_30 kX12_314 (Or.inl rfl) (by decide) (by decide) rfl rfl h1 ?_
  refine z_isub (pc' := 34) dX12_judges_33 rfl rfl ?_
  obtain ⟨h1, h2, h⟩ := h
  obtain ⟨G5, hG⟩ : ∃ z, z = zsi G4 (zrv G4 q0 21) (1 : Int32).toNatClampNeg (x3 - (ziv G4 q0 1)) := ⟨_, rfl⟩
  have h := h _ hG
  refine z_iast (pc' := 35) dX12_judges_34 rfl h1 h2  ?_
  refine z_st hG ?_
  refine z_aload_n (pc' := 36) dX12_judges_35 rfl rfl ?_
  obtain ⟨h1, h⟩ := h
  refine z_getR (ci := 13) (kf := 21) (pc' := 39) dX12_judges_36 kX12_48 (Or.inl rfl) (by decide) (by decide) rfl rfl h1 ?_
  refine z_iconst (x := 2) (pc' := 40) dX12_judges_39 (by decide) rfl ?_
  refine z_aload_n (pc' := 41) dX12_judges_40 rfl rfl ?_
  refine z_iload_n (pc' := 42) dX12_judges_41 rfl rfl ?_
  refine z_aload_n (pc' := 43) dX12_judges_42 rfl rfl ?_
  obtain ⟨h1, h⟩ := h
  refine z_getI (ci := 13) (kf := 1) (pc' := 46) dX12_judges_43 kX12_314 (Or.inl rfl) (by decide) (by decide) rfl rfl h1 ?_
  obtain ⟨h1, h⟩ := h
  obtain ⟨d1, b1, Qz, hm, hdd, hb, hkx, hk⟩ := h
  refine z_callV (Y := mX12_validOf) (n := 2) (as := [.int x1, .int (ziv G5 q0 1)]) (st := [.int 2, .ref (zrv G5 q0 21)]) (pc' := 49) (ci := 13) (q := q0) hm dX12_judges_46 kX12_337 vX12_validOf rfl rfl (by decide) rfl h1 hdd hb (Nat.le_of_ble_eq_true rfl) (fun r G7 hz => ?_) hkx
  obtain ⟨y6, rfl, h⟩ := hk r G7 hz
  obtain ⟨h1, h2, h⟩ := h
  obtain ⟨G9, hG⟩ : ∃ z, z = zsi G7 (zrv G5 q0 21) (2 : Int32).toNatClampNeg y6 := ⟨_, rfl⟩
  have h := h _ hG
  refine z_iast (pc' := 50) dX12_judges_49 rfl h1 h2  ?_
  refine z_st hG ?_
  refine z_aload_n (pc' := 51) dX12_judges_50 rfl rfl ?_
  obtain ⟨h1, h⟩ := h
  refine z_getR (ci := 13) (kf := 21) (pc' := 54) dX12_judges_51 kX12_48 (Or.inl rfl) (by decide) (by decide) rfl rfl h1 ?_
  refine z_iconst (x := 3) (pc' := 55) dX12_judges_54 (by decide) rfl ?_
  refine z_aload_n (pc' := 56) dX12_judges_55 rfl rfl ?_
  obtain ⟨h1, h⟩ := h
  refine z_getR (ci := 13) (kf := 30) (pc' := 59) dX12_judges_56 kX12_58 (Or.inl rfl) (by decide) (by decide) rfl rfl h1 ?_
  refine z_iload_n (pc' := 60) dX12_judges_59 rfl rfl ?_
  obtain ⟨h1, h2, h⟩ := h
  refine z_zald (pc' := 61) dX12_judges_60 rfl h1 h2 ?_
  refine z_if_eq (pt := 68) (pc' := 64) dX12_judges_61 (by decide) rfl (fun hc => ?_) (fun hc => ?_)
  · have h := h.1 hc
    refine z_iconst (x := 0) (pc' := 69) dX12_judges_68 (by decide) rfl ?_
    obtain ⟨h1, h2, h⟩ := h
    obtain ⟨G10, hG⟩ : ∃ z, z = zsi G9 (zrv G9 q0 21) (3 : Int32).toNatClampNeg 0 := ⟨_, rfl⟩
    have h := h _ hG
    refine z_iast (pc' := 70) dX12_judges_69 rfl h1 h2  ?_
    refine z_st hG ?_
    refine z_iconst (x := 0) (pc' := 71) dX12_judges_70 (by decide) rfl ?_
    refine z_istore (pc' := 73) dX12_judges_71 (by decide) rfl ?_
    exact z_dr (ls' := [some (.ref q0), none, some (.int x2), none, some (.int x4), some (.int 0), none, none]) ⟨rfl, rfl, rfl, rfl, trivial⟩ h
  · have h := h.2 hc
    refine z_iconst (x := 1) (pc' := 65) dX12_judges_64 (by decide) rfl ?_
    refine z_goto (pc' := 69) dX12_judges_65 (by decide) ?_
    obtain ⟨h1, h2, h⟩ := h
    obtain ⟨G11, hG⟩ : ∃ z, z = zsi G9 (zrv G9 q0 21) (3 : Int32).toNatClampNeg 1 := ⟨_, rfl⟩
    have h := h _ hG
    refine z_iast (pc' := 70) dX12_judges_69 rfl h1 h2  ?_
    refine z_st hG ?_
    refine z_iconst (x := 0) (pc' := 71) dX12_judges_70 (by decide) rfl ?_
    refine z_istore (pc' := 73) dX12_judges_71 (by decide) rfl ?_
    exact z_dr (ls' := [some (.ref q0), none, some (.int x2), none, some (.int x4), some (.int 0), none, none]) ⟨rfl, rfl, rfl, rfl, trivial⟩ h
def wp_X12_judges_73 (E : ZE) (l : Launch) (d b : Nat) (G0 : ZG) (Q : ZQ) (k : Nat) (q0 : Nat) (x2 : Int32) (x4 : Int32) (x5 : Int32) (G : ZG) : Prop :=
  ((4 ≤ x5 →
    zob G q0 13 ∧
    ((x4 = 0 →
      zW E l mX12_judges d b G0 Q k 121 [some (.ref q0), none, none, none, none, none, none, none] [.int 0, .int 8, .ref (zrv G q0 21)] G) ∧
    (¬ (x4 = 0) →
      zW E l mX12_judges d b G0 Q k 121 [some (.ref q0), none, none, none, none, none, none, none] [.int 1, .int 8, .ref (zrv G q0 21)] G))) ∧
  (¬ (4 ≤ x5) →
    zob G q0 13 ∧
    ((¬ x2 = x5 →
      zar G (zrv G q0 21) 0 ∧ vp_in (4 + x5) (zln G (zrv G q0 21)) ∧
      ∀ G1, G1 = zsi G (zrv G q0 21) (4 + x5).toNatClampNeg 0 →
      zW E l mX12_judges d b G0 Q k 73 [some (.ref q0), none, some (.int x2), none, some (.int x4), some (.int (x5 + 1)), none, none] [] G1) ∧
    (¬ (¬ x2 = x5) →
      zar G (zrv G q0 21) 0 ∧ vp_in (4 + x5) (zln G (zrv G q0 21)) ∧
      ∀ G2, G2 = zsi G (zrv G q0 21) (4 + x5).toNatClampNeg 1 →
      zW E l mX12_judges d b G0 Q k 73 [some (.ref q0), none, some (.int x2), none, some (.int x4), some (.int (x5 + 1)), none, none] [] G2))))
theorem wpt_X12_judges_73 {E : ZE} {l : Launch} {d b : Nat} {G0 : ZG} {Q : ZQ} {k : Nat} {q0 : Nat} {x2 : Int32} {x4 : Int32} {x5 : Int32} {G : ZG} (h : wp_X12_judges_73 E l d b G0 Q k q0 x2 x4 x5 G) : zW E l mX12_judges d b G0 Q k 73 [some (.ref q0), none, some (.int x2), none, some (.int x4), some (.int x5), none, none] [] G := by
  unfold wp_X12_judges_73 at h
  refine z_iload (pc' := 75) dX12_judges_73 rfl rfl ?_
  refine z_iconst (x := 4) (pc' := 76) dX12_judges_75 (by decide) rfl ?_
  refine z_icmp_ge (pt := 105) (pc' := 79) dX12_judges_76 (by decide) rfl (fun hc => ?_) (fun hc => ?_)
  · have h := h.1 hc
    refine z_aload_n (pc' := 106) dX12_judges_105 rfl rfl ?_
    obtain ⟨h1, h⟩ := h
    refine z_getR (ci := 13) (kf := 21) (pc' := 109) dX12_judges_106 kX12_48 (Or.inl rfl) (by decide) (by decide) rfl rfl h1 ?_
    refine z_bipush (x := 8) (pc' := 111) dX12_judges_109 (by decide) rfl ?_
    refine z_iload (pc' := 113) dX12_judges_111 rfl rfl ?_
    refine z_if_eq (pt := 120) (pc' := 116) dX12_judges_113 (by decide) rfl (fun hc => ?_) (fun hc => ?_)
    · have h := h.1 hc
      refine z_iconst (x := 0) (pc' := 121) dX12_judges_120 (by decide) rfl ?_
      exact z_dr (ls' := [some (.ref q0), none, none, none, none, none, none, none]) ⟨rfl, trivial⟩ h
    · have h := h.2 hc
      refine z_iconst (x := 1) (pc' := 117) dX12_judges_116 (by decide) rfl ?_
      refine z_goto (pc' := 121) dX12_judges_117 (by decide) ?_
      exact z_dr (ls' := [some (.ref q0), none, none, none, none, none, none, none]) ⟨rfl, trivial⟩ h
  · have h := h.2 hc
    refine z_aload_n (pc' := 80) dX12_judges_79 rfl rfl ?_
    obtain ⟨h1, h⟩ := h
    refine z_getR (ci := 13) (kf := 21) (pc' := 83) dX12_judges_80 kX12_48 (Or.inl rfl) (by decide) (by decide) rfl rfl h1 ?_
    refine z_iconst (x := 4) (pc' := 84) dX12_judges_83 (by decide) rfl ?_
    refine z_iload (pc' := 86) dX12_judges_84 rfl rfl ?_
    refine z_iadd (pc' := 87) dX12_judges_86 rfl rfl ?_
    refine z_iload_n (pc' := 88) dX12_judges_87 rfl rfl ?_
    refine z_iload (pc' := 90) dX12_judges_88 rfl rfl ?_
    refine z_icmp_ne (pt := 97) (pc' := 93) dX12_judges_90 (by decide) rfl (fun hc => ?_) (fun hc => ?_)
    · have h := h.1 hc
      refine z_iconst (x := 0) (pc' := 98) dX12_judges_97 (by decide) rfl ?_
      obtain ⟨h1, h2, h⟩ := h
      obtain ⟨G1, hG⟩ : ∃ z, z = zsi G (zrv G q0 21) (4 + x5).toNatClampNeg 0 := ⟨_, rfl⟩
      have h := h _ hG
      refine z_iast (pc' := 99) dX12_judges_98 rfl h1 h2  ?_
      refine z_st hG ?_
      refine z_iinc (y := x5 + 1) (pc' := 102) dX12_judges_99 rfl (zinc_1 _) (by decide) rfl ?_
      refine z_goto (pc' := 73) dX12_judges_102 (by decide) ?_
      exact z_dr (ls' := [some (.ref q0), none, some (.int x2), none, some (.int x4), some (.int (x5 + 1)), none, none]) ⟨rfl, rfl, rfl, rfl, trivial⟩ h
    · have h := h.2 hc
      refine z_iconst (x := 1) (pc' := 94) dX12_judges_93 (by decide) rfl ?_
      refine z_goto (pc' := 98) dX12_judges_94 (by decide) ?_
      obtain ⟨h1, h2, h⟩ := h
      obtain ⟨G2, hG⟩ : ∃ z, z = zsi G (zrv G q0 21) (4 + x5).toNatClampNeg 1 := ⟨_, rfl⟩
      have h := h _ hG
      refine z_iast (pc' := 99) dX12_judges_98 rfl h1 h2  ?_
      refine z_st hG ?_
      refine z_iinc (y := x5 + 1) (pc' := 102) dX12_judges_99 rfl (zinc_1 _) (by decide) rfl ?_
      refine z_goto (pc' := 73) dX12_judges_102 (by decide) ?_
      exact z_dr (ls' := [some (.ref q0), none, some (.int x2), none, some (.int x4), some (.int (x5 + 1)), none, none]) ⟨rfl, rfl, rfl, rfl, trivial⟩ h
def wp_X12_judges_121 (E : ZE) (l : Launch) (d b : Nat) (G0 : ZG) (Q : ZQ) (k : Nat) (q0 : Nat) (s0 : Int32) (s1 : Int32) (p2 : Nat) (G : ZG) : Prop :=
  zar G p2 0 ∧ vp_in s1 (zln G p2) ∧
  ∀ G1, G1 = zsi G p2 s1.toNatClampNeg s0 →
  zob G1 q0 13 ∧
  ∀ G2, G2 = zsi G1 q0 23 0 →
  zob G2 q0 13 ∧
  ∀ G3, G3 = zsi G2 q0 24 0 →
  zob G3 q0 13 ∧
  ∀ G4, G4 = zsi G3 q0 25 (-1) →
  zob G4 q0 13 ∧
  ∀ G5, G5 = zsi G4 q0 26 0 →
  zob G5 q0 13 ∧
  ∀ G6, G6 = zsi G5 q0 27 (-1) →
  zob G6 q0 13 ∧
  ∀ G7, G7 = zsi G6 q0 28 0 →
  zob G7 q0 13 ∧
  zob G7 q0 13 ∧
  xcI E l mX12_lawOf d [.ref q0, .int (ziv G7 q0 1)] G7 k (fun X G9 => Q (.inr X) G9) (fun y8 G9 k10 =>
  zW E l mX12_judges d b G0 Q k10 165 [some (.ref q0), none, none, none, none, some (.int y8), some (.int 0), none] [] G9)
theorem wpt_X12_judges_121 {E : ZE} {l : Launch} {d b : Nat} {G0 : ZG} {Q : ZQ} {k : Nat} {q0 : Nat} {s0 : Int32} {s1 : Int32} {p2 : Nat} {G : ZG} (h : wp_X12_judges_121 E l d b G0 Q k q0 s0 s1 p2 G) : zW E l mX12_judges d b G0 Q k 121 [some (.ref q0), none, none, none, none, none, none, none] [.int s0, .int s1, .ref p2] G := by
  unfold wp_X12_judges_121 at h
  obtain ⟨h1, h2, h⟩ := h
  obtain ⟨G1, hG⟩ : ∃ z, z = zsi G p2 s1.toNatClampNeg s0 := ⟨_, rfl⟩
  have h := h _ hG
  refine z_iast (pc' := 122) dX12_judges_121 rfl h1 h2  ?_
  refine z_st hG ?_
  refine z_aload_n (pc' := 123) dX12_judges_122 rfl rfl ?_
  refine z_iconst (x := 0) (pc' := 124) dX12_judges_123 (by decide) rfl ?_
  obtain ⟨h1, h⟩ := h
  obtain ⟨G2, hG⟩ : ∃ z, z = zsi G1 q0 23 0 := ⟨_, rfl⟩
  have h := h _ hG
  refine z_putI (ci := 13) (kf := 23) (pc' := 127) dX12_judges_124 kX12_340 (Or.inl rfl) (by decide) (by decide) rfl (Or.inl rfl) rfl h1 (zok_int _) ?_
  refine z_st hG ?_
  refine z_aload_n (pc' := 128) dX12_judges_127 rfl rfl ?_
  refine z_iconst (x := 0) (pc' := 129) dX12_judges_128 (by decide) rfl ?_
  obtain ⟨h1, h⟩ := h
  obtain ⟨G3, hG⟩ : ∃ z, z = zsi G2 q0 24 0 := ⟨_, rfl⟩
  have h := h _ hG
  refine z_putI (ci := 13) (kf := 24) (pc' := 132) dX12_judges_129 kX12_343 (Or.inl rfl) (by decide) (by decide) rfl (Or.inl rfl) rfl h1 (zok_int _) ?_
  refine z_st hG ?_
  refine z_aload_n (pc' := 133) dX12_judges_132 rfl rfl ?_
  refine z_iconst (x := (-1)) (pc' := 134) dX12_judges_133 (by decide) rfl ?_
  obtain ⟨h1, h⟩ := h
  obtain ⟨G4, hG⟩ : ∃ z, z = zsi G3 q0 25 (-1) := ⟨_, rfl⟩
  have h := h _ hG
  refine z_putI (ci := 13) (kf := 25) (pc' := 137) dX12_judges_134 kX12_346 (Or.inl rfl) (by decide) (by decide) rfl (Or.inl rfl) rfl h1 (zok_int _) ?_
  refine z_st hG ?_
  refine z_aload_n (pc' := 138) dX12_judges_137 rfl rfl ?_
  refine z_iconst (x := 0) (pc' := 139) dX12_judges_138 (by decide) rfl ?_
  obtain ⟨h1, h⟩ := h
  obtain ⟨G5, hG⟩ : ∃ z, z = zsi G4 q0 26 0 := ⟨_, rfl⟩
  have h := h _ hG
  refine z_putI (ci := 13) (kf := 26) (pc' := 142) dX12_judges_139 kX12_349 (Or.inl rfl) (by decide) (by decide) rfl (Or.inl rfl) rfl h1 (zok_int _) ?_
  refine z_st hG ?_
  refine z_aload_n (pc' := 143) dX12_judges_142 rfl rfl ?_
  refine z_iconst (x := (-1)) (pc' := 144) dX12_judges_143 (by decide) rfl ?_
  obtain ⟨h1, h⟩ := h
  obtain ⟨G6, hG⟩ : ∃ z, z = zsi G5 q0 27 (-1) := ⟨_, rfl⟩
  have h := h _ hG
  refine z_putI (ci := 13) (kf := 27) (pc' := 147) dX12_judges_144 kX12_352 (Or.inl rfl) (by decide) (by decide) rfl (Or.inl rfl) rfl h1 (zok_int _) ?_
  refine z_st hG ?_
  refine z_aload_n (pc' := 148) dX12_judges_147 rfl rfl ?_
  refine z_iconst (x := 0) (pc' := 149) dX12_judges_148 (by decide) rfl ?_
  obtain ⟨h1, h⟩ := h
  obtain ⟨G7, hG⟩ : ∃ z, z = zsi G6 q0 28 0 := ⟨_, rfl⟩
  have h := h _ hG
  refine z_putI (ci := 13) (kf := 28) (pc' := 152) dX12_judges_149 kX12_355 (Or.inl rfl) (by decide) (by decide) rfl (Or.inl rfl) rfl h1 zok_0 ?_
  refine z_st hG ?_
  refine z_aload_n (pc' := 153) dX12_judges_152 rfl rfl ?_
  refine z_aload_n (pc' := 154) dX12_judges_153 rfl rfl ?_
  obtain ⟨h1, h⟩ := h
  refine z_getI (ci := 13) (kf := 1) (pc' := 157) dX12_judges_154 kX12_314 (Or.inl rfl) (by decide) (by decide) rfl rfl h1 ?_
  obtain ⟨h1, h⟩ := h
  obtain ⟨d1, b1, Qz, hm, hdd, hb, hkx, hk⟩ := h
  refine z_callV (Y := mX12_lawOf) (n := 1) (as := [.int (ziv G7 q0 1)]) (st := []) (pc' := 160) (ci := 13) (q := q0) hm dX12_judges_157 kX12_359 vX12_lawOf rfl rfl (by decide) rfl h1 hdd hb (Nat.le_of_ble_eq_true rfl) (fun r G9 hz => ?_) hkx
  obtain ⟨y8, rfl, h⟩ := hk r G9 hz
  refine z_istore (pc' := 162) dX12_judges_160 (by decide) rfl ?_
  refine z_iconst (x := 0) (pc' := 163) dX12_judges_162 (by decide) rfl ?_
  refine z_istore (pc' := 165) dX12_judges_163 (by decide) rfl ?_
  exact z_dr (ls' := [some (.ref q0), none, none, none, none, some (.int y8), some (.int 0), none]) ⟨rfl, rfl, rfl, trivial⟩ h
def wp_X12_judges_165 (E : ZE) (l : Launch) (d b : Nat) (G0 : ZG) (Q : ZQ) (k : Nat) (q0 : Nat) (x5 : Int32) (x6 : Int32) (G : ZG) : Prop :=
  ((x5 < 0 →
    zob G q0 13 ∧
    ((0 ≤ (ziv G q0 25) →
      Q (.inl none) G) ∧
    (¬ (0 ≤ (ziv G q0 25)) →
      zob G q0 13 ∧
      ∀ G1, G1 = zsi G q0 25 10 →
      Q (.inl none) G1))) ∧
  (¬ (x5 < 0) →
    zob G q0 13 ∧
    (zar G (zrv G q0 11) 0 ∨ zrd G (zrv G q0 11) .int) ∧ vp_in x5 (zln G (zrv G q0 11)) ∧
    (((ziv G (zrv G q0 11) x5.toNatClampNeg) ≤ x6 →
      zob G q0 13 ∧
      ((0 ≤ (ziv G q0 25) →
        Q (.inl none) G) ∧
      (¬ (0 ≤ (ziv G q0 25)) →
        zob G q0 13 ∧
        ∀ G2, G2 = zsi G q0 25 10 →
        Q (.inl none) G2))) ∧
    (¬ ((ziv G (zrv G q0 11) x5.toNatClampNeg) ≤ x6) →
      zob G q0 13 ∧
      (zar G (zrv G q0 14) 0 ∨ zrd G (zrv G q0 14) .int) ∧ vp_in ((16 * x5) + x6) (zln G (zrv G q0 14)) ∧
      zob G q0 13 ∧
      (zar G (zrv G q0 15) 0 ∨ zrd G (zrv G q0 15) .int) ∧ vp_in ((16 * x5) + x6) (zln G (zrv G q0 15)) ∧
      zob G q0 13 ∧
      xcI E l mX12_holds d [.ref q0, .int x5, .int (ziv G (zrv G q0 14) ((16 * x5) + x6).toNatClampNeg), .int (ziv G (zrv G q0 15) ((16 * x5) + x6).toNatClampNeg)] G k (fun X G9 => Q (.inr X) G9) (fun y3 G4 k5 =>
      ((¬ y3 = 0 →
        zob G4 q0 13 ∧
        (zar G4 (zrv G4 q0 12) 0 ∨ zrd G4 (zrv G4 q0 12) .int) ∧ vp_in ((16 * x5) + x6) (zln G4 (zrv G4 q0 12)) ∧
        (((ziv G4 (zrv G4 q0 12) ((16 * x5) + x6).toNatClampNeg) = 0 →
          zob G4 q0 13 ∧
          zob G4 q0 13 ∧
          (zar G4 (zrv G4 q0 13) 0 ∨ zrd G4 (zrv G4 q0 13) .int) ∧ vp_in ((16 * x5) + x6) (zln G4 (zrv G4 q0 13)) ∧
          zob G4 q0 13 ∧
          ∀ G6, G6 = zsi G4 q0 23 ((ziv G4 q0 23) ||| (ziv G4 (zrv G4 q0 13) ((16 * x5) + x6).toNatClampNeg)) →
          zW E l mX12_judges d b G0 Q k5 165 [some (.ref q0), none, none, none, none, some (.int x5), some (.int (x6 + 1)), none] [] G6) ∧
        (((ziv G4 (zrv G4 q0 12) ((16 * x5) + x6).toNatClampNeg) = 1 →
          zob G4 q0 13 ∧
          zob G4 q0 13 ∧
          (zar G4 (zrv G4 q0 13) 0 ∨ zrd G4 (zrv G4 q0 13) .int) ∧ vp_in ((16 * x5) + x6) (zln G4 (zrv G4 q0 13)) ∧
          zob G4 q0 13 ∧
          ∀ G7, G7 = zsi G4 q0 24 ((ziv G4 q0 24) + (ziv G4 (zrv G4 q0 13) ((16 * x5) + x6).toNatClampNeg)) →
          zW E l mX12_judges d b G0 Q k5 165 [some (.ref q0), none, none, none, none, some (.int x5), some (.int (x6 + 1)), none] [] G7) ∧
        (((ziv G4 (zrv G4 q0 12) ((16 * x5) + x6).toNatClampNeg) = 2 →
          zob G4 q0 13 ∧
          zob G4 q0 13 ∧
          (zar G4 (zrv G4 q0 13) 0 ∨ zrd G4 (zrv G4 q0 13) .int) ∧ vp_in ((16 * x5) + x6) (zln G4 (zrv G4 q0 13)) ∧
          xcI E l mJ9_max_7cf53 d [.int (ziv G4 q0 25), .int (ziv G4 (zrv G4 q0 13) ((16 * x5) + x6).toNatClampNeg)] G4 k5 (fun X G9 => Q (.inr X) G9) (fun y8 G9 k10 =>
          zob G9 q0 13 ∧
          ∀ G11, G11 = zsi G9 q0 25 y8 →
          zW E l mX12_judges d b G0 Q k10 165 [some (.ref q0), none, none, none, none, some (.int x5), some (.int (x6 + 1)), none] [] G11)) ∧
        (((ziv G4 (zrv G4 q0 12) ((16 * x5) + x6).toNatClampNeg) = 3 →
          zob G4 q0 13 ∧
          zob G4 q0 13 ∧
          (zar G4 (zrv G4 q0 13) 0 ∨ zrd G4 (zrv G4 q0 13) .int) ∧ vp_in ((16 * x5) + x6) (zln G4 (zrv G4 q0 13)) ∧
          zob G4 q0 13 ∧
          ∀ G12, G12 = zsi G4 q0 26 ((ziv G4 q0 26) + (ziv G4 (zrv G4 q0 13) ((16 * x5) + x6).toNatClampNeg)) →
          zW E l mX12_judges d b G0 Q k5 165 [some (.ref q0), none, none, none, none, some (.int x5), some (.int (x6 + 1)), none] [] G12) ∧
        (((ziv G4 (zrv G4 q0 12) ((16 * x5) + x6).toNatClampNeg) = 4 →
          zob G4 q0 13 ∧
          ∀ G13, G13 = zsi G4 q0 28 1 →
          zW E l mX12_judges d b G0 Q k5 165 [some (.ref q0), none, none, none, none, some (.int x5), some (.int (x6 + 1)), none] [] G13) ∧
        (¬ (ziv G4 (zrv G4 q0 12) ((16 * x5) + x6).toNatClampNeg) = 0 → ¬ (ziv G4 (zrv G4 q0 12) ((16 * x5) + x6).toNatClampNeg) = 1 → ¬ (ziv G4 (zrv G4 q0 12) ((16 * x5) + x6).toNatClampNeg) = 2 → ¬ (ziv G4 (zrv G4 q0 12) ((16 * x5) + x6).toNatClampNeg) = 3 → ¬ (ziv G4 (zrv G4 q0 12) ((16 * x5) + x6).toNatClampNeg) = 4 →
          zob G4 q0 13 ∧
          ((0 ≤ (ziv G4 q0 27) →
            zob G4 q0 13 ∧
            zob G4 q0 13 ∧
            (zar G4 (zrv G4 q0 13) 0 ∨ zrd G4 (zrv G4 q0 13) .int) ∧ vp_in ((16 * x5) + x6) (zln G4 (zrv G4 q0 13)) ∧
            xcI E l mJ9_min_7cf53 d [.int (ziv G4 q0 27), .int (ziv G4 (zrv G4 q0 13) ((16 * x5) + x6).toNatClampNeg)] G4 k5 (fun X G9 => Q (.inr X) G9) (fun y14 G15 k16 =>
            zob G15 q0 13 ∧
            ∀ G17, G17 = zsi G15 q0 27 y14 →
            zW E l mX12_judges d b G0 Q k16 165 [some (.ref q0), none, none, none, none, some (.int x5), some (.int (x6 + 1)), none] [] G17)) ∧
          (¬ (0 ≤ (ziv G4 q0 27)) →
            zob G4 q0 13 ∧
            (zar G4 (zrv G4 q0 13) 0 ∨ zrd G4 (zrv G4 q0 13) .int) ∧ vp_in ((16 * x5) + x6) (zln G4 (zrv G4 q0 13)) ∧
            zob G4 q0 13 ∧
            ∀ G18, G18 = zsi G4 q0 27 (ziv G4 (zrv G4 q0 13) ((16 * x5) + x6).toNatClampNeg) →
            zW E l mX12_judges d b G0 Q k5 165 [some (.ref q0), none, none, none, none, some (.int x5), some (.int (x6 + 1)), none] [] G18))))))))) ∧
      (¬ (¬ y3 = 0) →
        zW E l mX12_judges d b G0 Q k5 165 [some (.ref q0), none, none, none, none, some (.int x5), some (.int (x6 + 1)), none] [] G4)))))))
theorem wpt_X12_judges_165 {E : ZE} {l : Launch} {d b : Nat} {G0 : ZG} {Q : ZQ} {k : Nat} {q0 : Nat} {x5 : Int32} {x6 : Int32} {G : ZG} (h : wp_X12_judges_165 E l d b G0 Q k q0 x5 x6 G) : zW E l mX12_judges d b G0 Q k 165 [some (.ref q0), none, none, none, none, some (.int x5), some (.int x6), none] [] G := by
  unfold wp_X12_judges_165 at h
  refine z_iload (pc' := 167) dX12_judges_165 rfl rfl ?_
  refine z_if_lt (pt := 387) (pc' := 170) dX12_judges_167 (by decide) rfl (fun hc => ?_) (fun hc => ?_)
  · have h := h.1 hc
    refine z_aload_n (pc' := 388) dX12_judges_387 rfl rfl ?_
    obtain ⟨h1, h⟩ := h
    refine z_getI (ci := 13) (kf := 25) (pc' := 391) dX12_judges_388 kX12_346 (Or.inl rfl) (by decide) (by decide) rfl rfl h1 ?_
    refine z_if_ge (pt := 400) (pc' := 394) dX12_judges_391 (by decide) rfl (fun hc => ?_) (fun hc => ?_)
    · have h := h.1 hc
      exact z_vret dX12_judges_400 rfl h
    · have h := h.2 hc
      refine z_aload_n (pc' := 395) dX12_judges_394 rfl rfl ?_
      refine z_bipush (x := 10) (pc' := 397) dX12_judges_395 (by decide) rfl ?_
      obtain ⟨h1, h⟩ := h
      obtain ⟨G1, hG⟩ : ∃ z, z = zsi G q0 25 10 := ⟨_, rfl⟩
      have h := h _ hG
      refine z_putI (ci := 13) (kf := 25) (pc' := 400) dX12_judges_397 kX12_346 (Or.inl rfl) (by decide) (by decide) rfl (Or.inl rfl) rfl h1 (zok_int _) ?_
      refine z_st hG ?_
      exact z_vret dX12_judges_400 rfl h
  · have h := h.2 hc
    refine z_iload (pc' := 172) dX12_judges_170 rfl rfl ?_
    refine z_aload_n (pc' := 173) dX12_judges_172 rfl rfl ?_
    obtain ⟨h1, h⟩ := h
    refine z_getR (ci := 13) (kf := 11) (pc' := 176) dX12_judges_173 kX12_24 (Or.inl rfl) (by decide) (by decide) rfl rfl h1 ?_
    refine z_iload (pc' := 178) dX12_judges_176 rfl rfl ?_
    obtain ⟨h1, h2, h⟩ := h
    refine z_iald (pc' := 179) dX12_judges_178 rfl h1 h2 ?_
    refine z_icmp_ge (pt := 387) (pc' := 182) dX12_judges_179 (by decide) rfl (fun hc => ?_) (fun hc => ?_)
    · have h := h.1 hc
      refine z_aload_n (pc' := 388) dX12_judges_387 rfl rfl ?_
      obtain ⟨h1, h⟩ := h
      refine z_getI (ci := 13) (kf := 25) (pc' := 391) dX12_judges_388 kX12_346 (Or.inl rfl) (by decide) (by decide) rfl rfl h1 ?_
      refine z_if_ge (pt := 400) (pc' := 394) dX12_judges_391 (by decide) rfl (fun hc => ?_) (fun hc => ?_)
      · have h := h.1 hc
        exact z_vret dX12_judges_400 rfl h
      · have h := h.2 hc
        refine z_aload_n (pc' := 395) dX12_judges_394 rfl rfl ?_
        refine z_bipush (x := 10) (pc' := 397) dX12_judges_395 (by decide) rfl ?_
        obtain ⟨h1, h⟩ := h
        obtain ⟨G2, hG⟩ : ∃ z, z = zsi G q0 25 10 := ⟨_, rfl⟩
        have h := h _ hG
        refine z_putI (ci := 13) (kf := 25) (pc' := 400) dX12_judges_397 kX12_346 (Or.inl rfl) (by decide) (by decide) rfl (Or.inl rfl) rfl h1 (zok_int _) ?_
        refine z_st hG ?_
        exact z_vret dX12_judges_400 rfl h
    · have h := h.2 hc
      refine z_bipush (x := 16) (pc' := 184) dX12_judges_182 (by decide) rfl ?_
      refine z_iload (pc' := 186) dX12_judges_184 rfl rfl ?_
      refine z_imul (pc' := 187) dX12_judges_186 rfl rfl ?_
      refine z_iload (pc' := 189) dX12_judges_187 rfl rfl ?_
      refine z_iadd (pc' := 190) dX12_judges_189 rfl rfl ?_
      refine z_istore (pc' := 192) dX12_judges_190 (by decide) rfl ?_
      refine z_aload_n (pc' := 193) dX12_judges_192 rfl rfl ?_
      refine z_iload (pc' := 195) dX12_judges_193 rfl rfl ?_
      refine z_aload_n (pc' := 196) dX12_judges_195 rfl rfl ?_
      obtain ⟨h1, h⟩ := h
      refine z_getR (ci := 13) (kf := 14) (pc' := 199) dX12_judges_196 kX12_33 (Or.inl rfl) (by decide) (by decide) rfl rfl h1 ?_
      refine z_iload (pc' := 201) dX12_judges_199 rfl rfl ?_
      obtain ⟨h1, h2, h⟩ := h
      refine z_iald (pc' := 202) dX12_judges_201 rfl h1 h2 ?_
      refine z_aload_n (pc' := 203) dX12_judges_202 rfl rfl ?_
      obtain ⟨h1, h⟩ := h
      refine z_getR (ci := 13) (kf := 15) (pc' := 206) dX12_judges_203 kX12_36 (Or.inl rfl) (by decide) (by decide) rfl rfl h1 ?_
      refine z_iload (pc' := 208) dX12_judges_206 rfl rfl ?_
      obtain ⟨h1, h2, h⟩ := h
      refine z_iald (pc' := 209) dX12_judges_208 rfl h1 h2 ?_
      obtain ⟨h1, h⟩ := h
      obtain ⟨d1, b1, Qz, hm, hdd, hb, hkx, hk⟩ := h
      refine z_callV (Y := mX12_holds) (n := 3) (as := [.int x5, .int (ziv G (zrv G q0 14) ((16 * x5) + x6).toNatClampNeg), .int (ziv G (zrv G q0 15) ((16 * x5) + x6).toNatClampNeg)]) (st := []) (pc' := 212) (ci := 13) (q := q0) hm dX12_judges_209 kX12_363 vX12_holds rfl rfl (by decide) rfl h1 hdd hb (Nat.le_of_ble_eq_true rfl) (fun r G4 hz => ?_) hkx
      obtain ⟨y3, rfl, h⟩ := hk r G4 hz
      refine z_if_ne (pt := 218) (pc' := 215) dX12_judges_212 (by decide) rfl (fun hc => ?_) (fun hc => ?_)
      · have h := h.1 hc
        refine z_aload_n (pc' := 219) dX12_judges_218 rfl rfl ?_
        obtain ⟨h1, h⟩ := h
        refine z_getR (ci := 13) (kf := 12) (pc' := 222) dX12_judges_219 kX12_27 (Or.inl rfl) (by decide) (by decide) rfl rfl h1 ?_
        refine z_iload (pc' := 224) dX12_judges_222 rfl rfl ?_
        obtain ⟨h1, h2, h⟩ := h
        refine z_iald (pc' := 225) dX12_judges_224 rfl h1 h2 ?_
        by_cases hc0 : (ziv G4 (zrv G4 q0 12) ((16 * x5) + x6).toNatClampNeg) = 0
        · have h := h.1 hc0
          refine z_tableIn (off := 35) (pt := 260) dX12_judges_225 (by rw [hc0]; decide) (by rw [hc0]; decide) (by rw [hc0]; decide) (by decide) ?_
          refine z_aload_n (pc' := 261) dX12_judges_260 rfl rfl ?_
          refine z_dup (pc' := 262) dX12_judges_261 rfl rfl ?_
          obtain ⟨h1, h⟩ := h
          refine z_getI (ci := 13) (kf := 23) (pc' := 265) dX12_judges_262 kX12_340 (Or.inl rfl) (by decide) (by decide) rfl rfl h1 ?_
          refine z_aload_n (pc' := 266) dX12_judges_265 rfl rfl ?_
          obtain ⟨h1, h⟩ := h
          refine z_getR (ci := 13) (kf := 13) (pc' := 269) dX12_judges_266 kX12_30 (Or.inl rfl) (by decide) (by decide) rfl rfl h1 ?_
          refine z_iload (pc' := 271) dX12_judges_269 rfl rfl ?_
          obtain ⟨h1, h2, h⟩ := h
          refine z_iald (pc' := 272) dX12_judges_271 rfl h1 h2 ?_
          refine z_ior (pc' := 273) dX12_judges_272 rfl rfl ?_
          obtain ⟨h1, h⟩ := h
          obtain ⟨G6, hG⟩ : ∃ z, z = zsi G4 q0 23 ((ziv G4 q0 23) ||| (ziv G4 (zrv G4 q0 13) ((16 * x5) + x6).toNatClampNeg)) := ⟨_, rfl⟩
          have h := h _ hG
          refine z_putI (ci := 13) (kf := 23) (pc' := 276) dX12_judges_273 kX12_340 (Or.inl rfl) (by decide) (by decide) rfl (Or.inl rfl) rfl h1 (zok_int _) ?_
          refine z_st hG ?_
          refine z_goto (pc' := 381) dX12_judges_276 (by decide) ?_
          refine z_iinc (y := x6 + 1) (pc' := 384) dX12_judges_381 rfl (zinc_1 _) (by decide) rfl ?_
          refine z_goto (pc' := 165) dX12_judges_384 (by decide) ?_
          exact z_dr (ls' := [some (.ref q0), none, none, none, none, some (.int x5), some (.int (x6 + 1)), none]) ⟨rfl, rfl, rfl, trivial⟩ h
        have h := h.2
        by_cases hc1 : (ziv G4 (zrv G4 q0 12) ((16 * x5) + x6).toNatClampNeg) = 1
        · have h := h.1 hc1
          refine z_tableIn (off := 54) (pt := 279) dX12_judges_225 (by rw [hc1]; decide) (by rw [hc1]; decide) (by rw [hc1]; decide) (by decide) ?_
          refine z_aload_n (pc' := 280) dX12_judges_279 rfl rfl ?_
          refine z_dup (pc' := 281) dX12_judges_280 rfl rfl ?_
          obtain ⟨h1, h⟩ := h
          refine z_getI (ci := 13) (kf := 24) (pc' := 284) dX12_judges_281 kX12_343 (Or.inl rfl) (by decide) (by decide) rfl rfl h1 ?_
          refine z_aload_n (pc' := 285) dX12_judges_284 rfl rfl ?_
          obtain ⟨h1, h⟩ := h
          refine z_getR (ci := 13) (kf := 13) (pc' := 288) dX12_judges_285 kX12_30 (Or.inl rfl) (by decide) (by decide) rfl rfl h1 ?_
          refine z_iload (pc' := 290) dX12_judges_288 rfl rfl ?_
          obtain ⟨h1, h2, h⟩ := h
          refine z_iald (pc' := 291) dX12_judges_290 rfl h1 h2 ?_
          refine z_iadd (pc' := 292) dX12_judges_291 rfl rfl ?_
          obtain ⟨h1, h⟩ := h
          obtain ⟨G7, hG⟩ : ∃ z, z = zsi G4 q0 24 ((ziv G4 q0 24) + (ziv G4 (zrv G4 q0 13) ((16 * x5) + x6).toNatClampNeg)) := ⟨_, rfl⟩
          have h := h _ hG
          refine z_putI (ci := 13) (kf := 24) (pc' := 295) dX12_judges_292 kX12_343 (Or.inl rfl) (by decide) (by decide) rfl (Or.inl rfl) rfl h1 (zok_int _) ?_
          refine z_st hG ?_
          refine z_goto (pc' := 381) dX12_judges_295 (by decide) ?_
          refine z_iinc (y := x6 + 1) (pc' := 384) dX12_judges_381 rfl (zinc_1 _) (by decide) rfl ?_
          refine z_goto (pc' := 165) dX12_judges_384 (by decide) ?_
          exact z_dr (ls' := [some (.ref q0), none, none, none, none, some (.int x5), some (.int (x6 + 1)), none]) ⟨rfl, rfl, rfl, trivial⟩ h
        have h := h.2
        by_cases hc2 : (ziv G4 (zrv G4 q0 12) ((16 * x5) + x6).toNatClampNeg) = 2
        · have h := h.1 hc2
          refine z_tableIn (off := 73) (pt := 298) dX12_judges_225 (by rw [hc2]; decide) (by rw [hc2]; decide) (by rw [hc2]; decide) (by decide) ?_
          refine z_aload_n (pc' := 299) dX12_judges_298 rfl rfl ?_
          refine z_aload_n (pc' := 300) dX12_judges_299 rfl rfl ?_
          obtain ⟨h1, h⟩ := h
          refine z_getI (ci := 13) (kf := 25) (pc' := 303) dX12_judges_300 kX12_346 (Or.inl rfl) (by decide) (by decide) rfl rfl h1 ?_
          refine z_aload_n (pc' := 304) dX12_judges_303 rfl rfl ?_
          obtain ⟨h1, h⟩ := h
          refine z_getR (ci := 13) (kf := 13) (pc' := 307) dX12_judges_304 kX12_30 (Or.inl rfl) (by decide) (by decide) rfl rfl h1 ?_
          refine z_iload (pc' := 309) dX12_judges_307 rfl rfl ?_
          obtain ⟨h1, h2, h⟩ := h
          refine z_iald (pc' := 310) dX12_judges_309 rfl h1 h2 ?_
          obtain ⟨d1, b1, Qz, hm, hdd, hb, hkx, hk⟩ := h
          refine z_callS (Y := mJ9_max_7cf53) (n := 2) (as := [.int (ziv G4 q0 25), .int (ziv G4 (zrv G4 q0 13) ((16 * x5) + x6).toNatClampNeg)]) (st := [.ref q0]) (pc' := 313) hm dX12_judges_310 kX12_366 sJ9_max_7cf53 rfl rfl hdd hb (Nat.le_of_ble_eq_true rfl) (fun r G9 hz => ?_) hkx
          obtain ⟨y8, rfl, h⟩ := hk r G9 hz
          obtain ⟨h1, h⟩ := h
          obtain ⟨G11, hG⟩ : ∃ z, z = zsi G9 q0 25 y8 := ⟨_, rfl⟩
          have h := h _ hG
          refine z_putI (ci := 13) (kf := 25) (pc' := 316) dX12_judges_313 kX12_346 (Or.inl rfl) (by decide) (by decide) rfl (Or.inl rfl) rfl h1 (zok_int _) ?_
          refine z_st hG ?_
          refine z_goto (pc' := 381) dX12_judges_316 (by decide) ?_
          refine z_iinc (y := x6 + 1) (pc' := 384) dX12_judges_381 rfl (zinc_1 _) (by decide) rfl ?_
          refine z_goto (pc' := 165) dX12_judges_384 (by decide) ?_
          exact z_dr (ls' := [some (.ref q0), none, none, none, none, some (.int x5), some (.int (x6 + 1)), none]) ⟨rfl, rfl, rfl, trivial⟩ h
        have h := h.2
        by_cases hc3 : (ziv G4 (zrv G4 q0 12) ((16 * x5) + x6).toNatClampNeg) = 3
        · have h := h.1 hc3
          refine z_tableIn (off := 94) (pt := 319) dX12_judges_225 (by rw [hc3]; decide) (by rw [hc3]; decide) (by rw [hc3]; decide) (by decide) ?_
          refine z_aload_n (pc' := 320) dX12_judges_319 rfl rfl ?_
          refine z_dup (pc' := 321) dX12_judges_320 rfl rfl ?_
          obtain ⟨h1, h⟩ := h
          refine z_getI (ci := 13) (kf := 26) (pc' := 324) dX12_judges_321 kX12_349 (Or.inl rfl) (by decide) (by decide) rfl rfl h1 ?_
          refine z_aload_n (pc' := 325) dX12_judges_324 rfl rfl ?_
          obtain ⟨h1, h⟩ := h
          refine z_getR (ci := 13) (kf := 13) (pc' := 328) dX12_judges_325 kX12_30 (Or.inl rfl) (by decide) (by decide) rfl rfl h1 ?_
          refine z_iload (pc' := 330) dX12_judges_328 rfl rfl ?_
          obtain ⟨h1, h2, h⟩ := h
          refine z_iald (pc' := 331) dX12_judges_330 rfl h1 h2 ?_
          refine z_iadd (pc' := 332) dX12_judges_331 rfl rfl ?_
          obtain ⟨h1, h⟩ := h
          obtain ⟨G12, hG⟩ : ∃ z, z = zsi G4 q0 26 ((ziv G4 q0 26) + (ziv G4 (zrv G4 q0 13) ((16 * x5) + x6).toNatClampNeg)) := ⟨_, rfl⟩
          have h := h _ hG
          refine z_putI (ci := 13) (kf := 26) (pc' := 335) dX12_judges_332 kX12_349 (Or.inl rfl) (by decide) (by decide) rfl (Or.inl rfl) rfl h1 (zok_int _) ?_
          refine z_st hG ?_
          refine z_goto (pc' := 381) dX12_judges_335 (by decide) ?_
          refine z_iinc (y := x6 + 1) (pc' := 384) dX12_judges_381 rfl (zinc_1 _) (by decide) rfl ?_
          refine z_goto (pc' := 165) dX12_judges_384 (by decide) ?_
          exact z_dr (ls' := [some (.ref q0), none, none, none, none, some (.int x5), some (.int (x6 + 1)), none]) ⟨rfl, rfl, rfl, trivial⟩ h
        have h := h.2
        by_cases hc4 : (ziv G4 (zrv G4 q0 12) ((16 * x5) + x6).toNatClampNeg) = 4
        · have h := h.1 hc4
          refine z_tableIn (off := 113) (pt := 338) dX12_judges_225 (by rw [hc4]; decide) (by rw [hc4]; decide) (by rw [hc4]; decide) (by decide) ?_
          refine z_aload_n (pc' := 339) dX12_judges_338 rfl rfl ?_
          refine z_iconst (x := 1) (pc' := 340) dX12_judges_339 (by decide) rfl ?_
          obtain ⟨h1, h⟩ := h
          obtain ⟨G13, hG⟩ : ∃ z, z = zsi G4 q0 28 1 := ⟨_, rfl⟩
          have h := h _ hG
          refine z_putI (ci := 13) (kf := 28) (pc' := 343) dX12_judges_340 kX12_355 (Or.inl rfl) (by decide) (by decide) rfl (Or.inl rfl) rfl h1 zok_1 ?_
          refine z_st hG ?_
          refine z_goto (pc' := 381) dX12_judges_343 (by decide) ?_
          refine z_iinc (y := x6 + 1) (pc' := 384) dX12_judges_381 rfl (zinc_1 _) (by decide) rfl ?_
          refine z_goto (pc' := 165) dX12_judges_384 (by decide) ?_
          exact z_dr (ls' := [some (.ref q0), none, none, none, none, some (.int x5), some (.int (x6 + 1)), none]) ⟨rfl, rfl, rfl, trivial⟩ h
        have h := h.2
        have h := h hc0 hc1 hc2 hc3 hc4
        refine z_tableOut (pt := 346) dX12_judges_225 (by have e0 := lv_neT (a := 0) hc0 (by decide); have e1 := lv_neT (a := 1) hc1 (by decide); have e2 := lv_neT (a := 2) hc2 (by decide); have e3 := lv_neT (a := 3) hc3 (by decide); have e4 := lv_neT (a := 4) hc4 (by decide); omega) (by decide) ?_
        refine z_aload_n (pc' := 347) dX12_judges_346 rfl rfl ?_
        refine z_aload_n (pc' := 348) dX12_judges_347 rfl rfl ?_
        obtain ⟨h1, h⟩ := h
        refine z_getI (ci := 13) (kf := 27) (pc' := 351) dX12_judges_348 kX12_352 (Or.inl rfl) (by decide) (by decide) rfl rfl h1 ?_
        refine z_if_ge (pt := 364) (pc' := 354) dX12_judges_351 (by decide) rfl (fun hc => ?_) (fun hc => ?_)
        · have h := h.1 hc
          refine z_aload_n (pc' := 365) dX12_judges_364 rfl rfl ?_
          obtain ⟨h1, h⟩ := h
          refine z_getI (ci := 13) (kf := 27) (pc' := 368) dX12_judges_365 kX12_352 (Or.inl rfl) (by decide) (by decide) rfl rfl h1 ?_
          refine z_aload_n (pc' := 369) dX12_judges_368 rfl rfl ?_
          obtain ⟨h1, h⟩ := h
          refine z_getR (ci := 13) (kf := 13) (pc' := 372) dX12_judges_369 kX12_30 (Or.inl rfl) (by decide) (by decide) rfl rfl h1 ?_
          refine z_iload (pc' := 374) dX12_judges_372 rfl rfl ?_
          obtain ⟨h1, h2, h⟩ := h
          refine z_iald (pc' := 375) dX12_judges_374 rfl h1 h2 ?_
          obtain ⟨d1, b1, Qz, hm, hdd, hb, hkx, hk⟩ := h
          refine z_callS (Y := mJ9_min_7cf53) (n := 2) (as := [.int (ziv G4 q0 27), .int (ziv G4 (zrv G4 q0 13) ((16 * x5) + x6).toNatClampNeg)]) (st := [.ref q0]) (pc' := 378) hm dX12_judges_375 kX12_369 sJ9_min_7cf53 rfl rfl hdd hb (Nat.le_of_ble_eq_true rfl) (fun r G15 hz => ?_) hkx
          obtain ⟨y14, rfl, h⟩ := hk r G15 hz
          obtain ⟨h1, h⟩ := h
          obtain ⟨G17, hG⟩ : ∃ z, z = zsi G15 q0 27 y14 := ⟨_, rfl⟩
          have h := h _ hG
          refine z_putI (ci := 13) (kf := 27) (pc' := 381) dX12_judges_378 kX12_352 (Or.inl rfl) (by decide) (by decide) rfl (Or.inl rfl) rfl h1 (zok_int _) ?_
          refine z_st hG ?_
          refine z_iinc (y := x6 + 1) (pc' := 384) dX12_judges_381 rfl (zinc_1 _) (by decide) rfl ?_
          refine z_goto (pc' := 165) dX12_judges_384 (by decide) ?_
          exact z_dr (ls' := [some (.ref q0), none, none, none, none, some (.int x5), some (.int (x6 + 1)), none]) ⟨rfl, rfl, rfl, trivial⟩ h
        · have h := h.2 hc
          refine z_aload_n (pc' := 355) dX12_judges_354 rfl rfl ?_
          obtain ⟨h1, h⟩ := h
          refine z_getR (ci := 13) (kf := 13) (pc' := 358) dX12_judges_355 kX12_30 (Or.inl rfl) (by decide) (by decide) rfl rfl h1 ?_
          refine z_iload (pc' := 360) dX12_judges_358 rfl rfl ?_
          obtain ⟨h1, h2, h⟩ := h
          refine z_iald (pc' := 361) dX12_judges_360 rfl h1 h2 ?_
          refine z_goto (pc' := 378) dX12_judges_361 (by decide) ?_
          obtain ⟨h1, h⟩ := h
          obtain ⟨G18, hG⟩ : ∃ z, z = zsi G4 q0 27 (ziv G4 (zrv G4 q0 13) ((16 * x5) + x6).toNatClampNeg) := ⟨_, rfl⟩
          have h := h _ hG
          refine z_putI (ci := 13) (kf := 27) (pc' := 381) dX12_judges_378 kX12_352 (Or.inl rfl) (by decide) (by decide) rfl (Or.inl rfl) rfl h1 (zok_int _) ?_
          refine z_st hG ?_
          refine z_iinc (y := x6 + 1) (pc' := 384) dX12_judges_381 rfl (zinc_1 _) (by decide) rfl ?_
          refine z_goto (pc' := 165) dX12_judges_384 (by decide) ?_
          exact z_dr (ls' := [some (.ref q0), none, none, none, none, some (.int x5), some (.int (x6 + 1)), none]) ⟨rfl, rfl, rfl, trivial⟩ h
      · have h := h.2 hc
        refine z_goto (pc' := 381) dX12_judges_215 (by decide) ?_
        refine z_iinc (y := x6 + 1) (pc' := 384) dX12_judges_381 rfl (zinc_1 _) (by decide) rfl ?_
        refine z_goto (pc' := 165) dX12_judges_384 (by decide) ?_
        exact z_dr (ls' := [some (.ref q0), none, none, none, none, some (.int x5), some (.int (x6 + 1)), none]) ⟨rfl, rfl, rfl, trivial⟩ h
def wp_X12_lacksOf_0 (E : ZE) (l : Launch) (d b : Nat) (G0 : ZG) (Q : ZQ) (k : Nat) (q0 : Nat) (x1 : Int32) (G : ZG) : Prop :=
  zob G q0 13 ∧
  (zar G (zrv G q0 59) 0 ∨ zrd G (zrv G q0 59) .int) ∧ vp_in x1 (zln G (zrv G q0 59)) ∧
  zob G q0 13 ∧
  (zar G (zrv G q0 57) 0 ∨ zrd G (zrv G q0 57) .int) ∧ vp_in x1 (zln G (zrv G q0 57)) ∧
  Q (.inl (some (.int ((ziv G (zrv G q0 59) x1.toNatClampNeg) &&& ((ziv G (zrv G q0 57) x1.toNatClampNeg) ^^^ (-1)))))) G
theorem wpt_X12_lacksOf_0 {E : ZE} {l : Launch} {d b : Nat} {G0 : ZG} {Q : ZQ} {k : Nat} {q0 : Nat} {x1 : Int32} {G : ZG} (h : wp_X12_lacksOf_0 E l d b G0 Q k q0 x1 G) : zW E l mX12_lacksOf d b G0 Q k 0 [some (.ref q0), some (.int x1)] [] G := by
  unfold wp_X12_lacksOf_0 at h
  refine z_aload_n (pc' := 1) dX12_lacksOf_0 rfl rfl ?_
  obtain ⟨h1, h⟩ := h
  refine z_getR (ci := 13) (kf := 59) (pc' := 4) dX12_lacksOf_1 kX12_130 (Or.inl rfl) (by decide) (by decide) rfl rfl h1 ?_
  refine z_iload_n (pc' := 5) dX12_lacksOf_4 rfl rfl ?_
  obtain ⟨h1, h2, h⟩ := h
  refine z_iald (pc' := 6) dX12_lacksOf_5 rfl h1 h2 ?_
  refine z_aload_n (pc' := 7) dX12_lacksOf_6 rfl rfl ?_
  obtain ⟨h1, h⟩ := h
  refine z_getR (ci := 13) (kf := 57) (pc' := 10) dX12_lacksOf_7 kX12_124 (Or.inl rfl) (by decide) (by decide) rfl rfl h1 ?_
  refine z_iload_n (pc' := 11) dX12_lacksOf_10 rfl rfl ?_
  obtain ⟨h1, h2, h⟩ := h
  refine z_iald (pc' := 12) dX12_lacksOf_11 rfl h1 h2 ?_
  refine z_iconst (x := (-1)) (pc' := 13) dX12_lacksOf_12 (by decide) rfl ?_
  refine z_ixor (pc' := 14) dX12_lacksOf_13 rfl rfl ?_
  refine z_iand (pc' := 15) dX12_lacksOf_14 rfl rfl ?_
  exact z_iret dX12_lacksOf_15 rfl h
def wp_X12_law_0 (E : ZE) (l : Launch) (d b : Nat) (G0 : ZG) (Q : ZQ) (k : Nat) (q0 : Nat) (x1 : Int32) (G : ZG) : Prop :=
  zob G q0 13 ∧
  xcV E l mX12_uses d [.ref q0] G k (fun X G9 => Q (.inr X) G9) (fun G1 k2 =>
  zob G1 q0 13 ∧
  xcI E l mX12_in d [.int x1, .int (ziv G1 q0 1), .int 1000] G1 k2 (fun X G9 => Q (.inr X) G9) (fun y3 G4 k5 =>
  ((¬ y3 = 0 →
    zW E l mX12_law d b G0 Q k5 24 [some (.ref q0), some (.int x1), none, none] [.int 0, .ref q0] G4) ∧
  (¬ (¬ y3 = 0) →
    zW E l mX12_law d b G0 Q k5 24 [some (.ref q0), some (.int x1), none, none] [.int 1, .ref q0] G4))))
theorem wpt_X12_law_0 {E : ZE} {l : Launch} {d b : Nat} {G0 : ZG} {Q : ZQ} {k : Nat} {q0 : Nat} {x1 : Int32} {G : ZG} (h : wp_X12_law_0 E l d b G0 Q k q0 x1 G) : zW E l mX12_law d b G0 Q k 0 [some (.ref q0), some (.int x1), none, none] [] G := by
  unfold wp_X12_law_0 at h
  refine z_aload_n (pc' := 1) dX12_law_0 rfl rfl ?_
  obtain ⟨h1, h⟩ := h
  obtain ⟨d1, b1, Qz, hm, hdd, hb, hkx, hk⟩ := h
  refine z_callV (Y := mX12_uses) (n := 0) (as := []) (st := []) (pc' := 4) (ci := 13) (q := q0) hm dX12_law_1 kX12_311 vX12_uses rfl rfl (by decide) rfl h1 hdd hb (Nat.le_of_ble_eq_true rfl) (fun r G1 hz => ?_) hkx
  obtain ⟨rfl, h⟩ := hk r G1 hz
  refine z_aload_n (pc' := 5) dX12_law_4 rfl rfl ?_
  refine z_iload_n (pc' := 6) dX12_law_5 rfl rfl ?_
  refine z_aload_n (pc' := 7) dX12_law_6 rfl rfl ?_
  obtain ⟨h1, h⟩ := h
  refine z_getI (ci := 13) (kf := 1) (pc' := 10) dX12_law_7 kX12_314 (Or.inl rfl) (by decide) (by decide) rfl rfl h1 ?_
  refine z_sipush (x := 1000) (pc' := 13) dX12_law_10 (by decide) rfl ?_
  obtain ⟨d1, b1, Qz, hm, hdd, hb, hkx, hk⟩ := h
  refine z_callS (Y := mX12_in) (n := 3) (as := [.int x1, .int (ziv G1 q0 1), .int 1000]) (st := [.ref q0]) (pc' := 16) hm dX12_law_13 kX12_317 sX12_in rfl rfl hdd hb (Nat.le_of_ble_eq_true rfl) (fun r G4 hz => ?_) hkx
  obtain ⟨y3, rfl, h⟩ := hk r G4 hz
  refine z_if_ne (pt := 23) (pc' := 19) dX12_law_16 (by decide) rfl (fun hc => ?_) (fun hc => ?_)
  · have h := h.1 hc
    refine z_iconst (x := 0) (pc' := 24) dX12_law_23 (by decide) rfl ?_
    exact z_dr (ls' := [some (.ref q0), some (.int x1), none, none]) ⟨rfl, rfl, trivial⟩ h
  · have h := h.2 hc
    refine z_iconst (x := 1) (pc' := 20) dX12_law_19 (by decide) rfl ?_
    refine z_goto (pc' := 24) dX12_law_20 (by decide) ?_
    exact z_dr (ls' := [some (.ref q0), some (.int x1), none, none]) ⟨rfl, rfl, trivial⟩ h
def wp_X12_law_24 (E : ZE) (l : Launch) (d b : Nat) (G0 : ZG) (Q : ZQ) (k : Nat) (q0 : Nat) (x1 : Int32) (s0 : Int32) (p1 : Nat) (G : ZG) : Prop :=
  zob G p1 13 ∧
  xcI E l mX12_throwsIf d [.ref p1, .int s0, .int 1] G k (fun X G9 => Q (.inr X) G9) (fun y1 G2 k3 =>
  ((y1 = 0 →
    zob G2 q0 13 ∧
    xcI E l mX12_readLaw d [.ref q0] G2 k3 (fun X G9 => Q (.inr X) G9) (fun y4 G5 k6 =>
    ((0 ≤ y4 →
      zob G5 q0 13 ∧
      ∀ G7, G7 = zsi G5 q0 8 (-1) →
      ((0 ≤ y4 →
        zW E l mX12_law d b G0 Q k6 64 [some (.ref q0), some (.int x1), some (.int y4), none] [.int 0, .ref q0] G7) ∧
      (¬ (0 ≤ y4) →
        zW E l mX12_law d b G0 Q k6 64 [some (.ref q0), some (.int x1), some (.int y4), none] [.int 1, .ref q0] G7))) ∧
    (¬ (0 ≤ y4) →
      zob G5 q0 13 ∧
      zob G5 q0 13 ∧
      ∀ G8, G8 = zsi G5 q0 8 (ziv G5 q0 6) →
      ((0 ≤ y4 →
        zW E l mX12_law d b G0 Q k6 64 [some (.ref q0), some (.int x1), some (.int y4), none] [.int 0, .ref q0] G8) ∧
      (¬ (0 ≤ y4) →
        zW E l mX12_law d b G0 Q k6 64 [some (.ref q0), some (.int x1), some (.int y4), none] [.int 1, .ref q0] G8)))))) ∧
  (¬ (y1 = 0) →
    Q (.inl (some (.int 0))) G2)))
theorem wpt_X12_law_24 {E : ZE} {l : Launch} {d b : Nat} {G0 : ZG} {Q : ZQ} {k : Nat} {q0 : Nat} {x1 : Int32} {s0 : Int32} {p1 : Nat} {G : ZG} (h : wp_X12_law_24 E l d b G0 Q k q0 x1 s0 p1 G) : zW E l mX12_law d b G0 Q k 24 [some (.ref q0), some (.int x1), none, none] [.int s0, .ref p1] G := by
  unfold wp_X12_law_24 at h
  refine z_iconst (x := 1) (pc' := 25) dX12_law_24 (by decide) rfl ?_
  obtain ⟨h1, h⟩ := h
  obtain ⟨d1, b1, Qz, hm, hdd, hb, hkx, hk⟩ := h
  refine z_callV (Y := mX12_throwsIf) (n := 2) (as := [.int s0, .int 1]) (st := []) (pc' := 28) (ci := 13) (q := p1) hm dX12_law_25 kX12_321 vX12_throwsIf rfl rfl (by decide) rfl h1 hdd hb (Nat.le_of_ble_eq_true rfl) (fun r G2 hz => ?_) hkx
  obtain ⟨y1, rfl, h⟩ := hk r G2 hz
  refine z_if_eq (pt := 33) (pc' := 31) dX12_law_28 (by decide) rfl (fun hc => ?_) (fun hc => ?_)
  · have h := h.1 hc
    refine z_aload_n (pc' := 34) dX12_law_33 rfl rfl ?_
    obtain ⟨h1, h⟩ := h
    obtain ⟨d1, b1, Qz, hm, hdd, hb, hkx, hk⟩ := h
    refine z_callV (Y := mX12_readLaw) (n := 0) (as := []) (st := []) (pc' := 37) (ci := 13) (q := q0) hm dX12_law_34 kX12_325 vX12_readLaw rfl rfl (by decide) rfl h1 hdd hb (Nat.le_of_ble_eq_true rfl) (fun r G5 hz => ?_) hkx
    obtain ⟨y4, rfl, h⟩ := hk r G5 hz
    refine z_istore_n (pc' := 38) dX12_law_37 (by decide) rfl ?_
    refine z_aload_n (pc' := 39) dX12_law_38 rfl rfl ?_
    refine z_iload_n (pc' := 40) dX12_law_39 rfl rfl ?_
    refine z_if_ge (pt := 50) (pc' := 43) dX12_law_40 (by decide) rfl (fun hc => ?_) (fun hc => ?_)
    · have h := h.1 hc
      refine z_iconst (x := (-1)) (pc' := 51) dX12_law_50 (by decide) rfl ?_
      obtain ⟨h1, h⟩ := h
      obtain ⟨G7, hG⟩ : ∃ z, z = zsi G5 q0 8 (-1) := ⟨_, rfl⟩
      have h := h _ hG
      refine z_putI (ci := 13) (kf := 8) (pc' := 54) dX12_law_51 kX12_13 (Or.inl rfl) (by decide) (by decide) rfl (Or.inl rfl) rfl h1 (zok_int _) ?_
      refine z_st hG ?_
      refine z_aload_n (pc' := 55) dX12_law_54 rfl rfl ?_
      refine z_iload_n (pc' := 56) dX12_law_55 rfl rfl ?_
      refine z_if_ge (pt := 63) (pc' := 59) dX12_law_56 (by decide) rfl (fun hc => ?_) (fun hc => ?_)
      · have h := h.1 hc
        refine z_iconst (x := 0) (pc' := 64) dX12_law_63 (by decide) rfl ?_
        exact z_dr (ls' := [some (.ref q0), some (.int x1), some (.int y4), none]) ⟨rfl, rfl, rfl, trivial⟩ h
      · have h := h.2 hc
        refine z_iconst (x := 1) (pc' := 60) dX12_law_59 (by decide) rfl ?_
        refine z_goto (pc' := 64) dX12_law_60 (by decide) ?_
        exact z_dr (ls' := [some (.ref q0), some (.int x1), some (.int y4), none]) ⟨rfl, rfl, rfl, trivial⟩ h
    · have h := h.2 hc
      refine z_aload_n (pc' := 44) dX12_law_43 rfl rfl ?_
      obtain ⟨h1, h⟩ := h
      refine z_getI (ci := 13) (kf := 6) (pc' := 47) dX12_law_44 kX12_194 (Or.inl rfl) (by decide) (by decide) rfl rfl h1 ?_
      refine z_goto (pc' := 51) dX12_law_47 (by decide) ?_
      obtain ⟨h1, h⟩ := h
      obtain ⟨G8, hG⟩ : ∃ z, z = zsi G5 q0 8 (ziv G5 q0 6) := ⟨_, rfl⟩
      have h := h _ hG
      refine z_putI (ci := 13) (kf := 8) (pc' := 54) dX12_law_51 kX12_13 (Or.inl rfl) (by decide) (by decide) rfl (Or.inl rfl) rfl h1 (zok_int _) ?_
      refine z_st hG ?_
      refine z_aload_n (pc' := 55) dX12_law_54 rfl rfl ?_
      refine z_iload_n (pc' := 56) dX12_law_55 rfl rfl ?_
      refine z_if_ge (pt := 63) (pc' := 59) dX12_law_56 (by decide) rfl (fun hc => ?_) (fun hc => ?_)
      · have h := h.1 hc
        refine z_iconst (x := 0) (pc' := 64) dX12_law_63 (by decide) rfl ?_
        exact z_dr (ls' := [some (.ref q0), some (.int x1), some (.int y4), none]) ⟨rfl, rfl, rfl, trivial⟩ h
      · have h := h.2 hc
        refine z_iconst (x := 1) (pc' := 60) dX12_law_59 (by decide) rfl ?_
        refine z_goto (pc' := 64) dX12_law_60 (by decide) ?_
        exact z_dr (ls' := [some (.ref q0), some (.int x1), some (.int y4), none]) ⟨rfl, rfl, rfl, trivial⟩ h
  · have h := h.2 hc
    refine z_iconst (x := 0) (pc' := 32) dX12_law_31 (by decide) rfl ?_
    exact z_iret dX12_law_32 rfl h
def wp_X12_law_64 (E : ZE) (l : Launch) (d b : Nat) (G0 : ZG) (Q : ZQ) (k : Nat) (q0 : Nat) (x1 : Int32) (x2 : Int32) (s0 : Int32) (p1 : Nat) (G : ZG) : Prop :=
  zob G p1 13 ∧
  xcI E l mX12_throwsIf d [.ref p1, .int s0, .int 1] G k (fun X G9 => Q (.inr X) G9) (fun y1 G2 k3 =>
  ((¬ y1 = 0 →
    Q (.inl (some (.int 0))) G2) ∧
  (¬ (¬ y1 = 0) →
    zob G2 q0 13 ∧
    ((¬ (ziv G2 q0 19) = 12 →
      zW E l mX12_law d b G0 Q k3 86 [some (.ref q0), some (.int x1), some (.int x2), none] [.int 0, .ref q0] G2) ∧
    (¬ (¬ (ziv G2 q0 19) = 12) →
      zW E l mX12_law d b G0 Q k3 86 [some (.ref q0), some (.int x1), some (.int x2), none] [.int 1, .ref q0] G2)))))
theorem wpt_X12_law_64 {E : ZE} {l : Launch} {d b : Nat} {G0 : ZG} {Q : ZQ} {k : Nat} {q0 : Nat} {x1 : Int32} {x2 : Int32} {s0 : Int32} {p1 : Nat} {G : ZG} (h : wp_X12_law_64 E l d b G0 Q k q0 x1 x2 s0 p1 G) : zW E l mX12_law d b G0 Q k 64 [some (.ref q0), some (.int x1), some (.int x2), none] [.int s0, .ref p1] G := by
  unfold wp_X12_law_64 at h
  refine z_iconst (x := 1) (pc' := 65) dX12_law_64 (by decide) rfl ?_
  obtain ⟨h1, h⟩ := h
  obtain ⟨d1, b1, Qz, hm, hdd, hb, hkx, hk⟩ := h
  refine z_callV (Y := mX12_throwsIf) (n := 2) (as := [.int s0, .int 1]) (st := []) (pc' := 68) (ci := 13) (q := p1) hm dX12_law_65 kX12_321 vX12_throwsIf rfl rfl (by decide) rfl h1 hdd hb (Nat.le_of_ble_eq_true rfl) (fun r G2 hz => ?_) hkx
  obtain ⟨y1, rfl, h⟩ := hk r G2 hz
  refine z_if_ne (pt := 93) (pc' := 71) dX12_law_68 (by decide) rfl (fun hc => ?_) (fun hc => ?_)
  · have h := h.1 hc
    refine z_iconst (x := 0) (pc' := 94) dX12_law_93 (by decide) rfl ?_
    exact z_iret dX12_law_94 rfl h
  · have h := h.2 hc
    refine z_aload_n (pc' := 72) dX12_law_71 rfl rfl ?_
    refine z_aload_n (pc' := 73) dX12_law_72 rfl rfl ?_
    obtain ⟨h1, h⟩ := h
    refine z_getI (ci := 13) (kf := 19) (pc' := 76) dX12_law_73 kX12_328 (Or.inl rfl) (by decide) (by decide) rfl rfl h1 ?_
    refine z_bipush (x := 12) (pc' := 78) dX12_law_76 (by decide) rfl ?_
    refine z_icmp_ne (pt := 85) (pc' := 81) dX12_law_78 (by decide) rfl (fun hc => ?_) (fun hc => ?_)
    · have h := h.1 hc
      refine z_iconst (x := 0) (pc' := 86) dX12_law_85 (by decide) rfl ?_
      exact z_dr (ls' := [some (.ref q0), some (.int x1), some (.int x2), none]) ⟨rfl, rfl, rfl, trivial⟩ h
    · have h := h.2 hc
      refine z_iconst (x := 1) (pc' := 82) dX12_law_81 (by decide) rfl ?_
      refine z_goto (pc' := 86) dX12_law_82 (by decide) ?_
      exact z_dr (ls' := [some (.ref q0), some (.int x1), some (.int x2), none]) ⟨rfl, rfl, rfl, trivial⟩ h
def wp_X12_law_86 (E : ZE) (l : Launch) (d b : Nat) (G0 : ZG) (Q : ZQ) (k : Nat) (q0 : Nat) (x1 : Int32) (x2 : Int32) (s0 : Int32) (p1 : Nat) (G : ZG) : Prop :=
  zob G p1 13 ∧
  xcI E l mX12_throwsIf d [.ref p1, .int s0, .int 2] G k (fun X G9 => Q (.inr X) G9) (fun y1 G2 k3 =>
  ((y1 = 0 →
    zob G2 q0 13 ∧
    zob G2 q0 13 ∧
    zar G2 (zrv G2 q0 10) 0 ∧ vp_in (ziv G2 q0 19) (zln G2 (zrv G2 q0 10)) ∧
    ∀ G4, G4 = zsi G2 (zrv G2 q0 10) (ziv G2 q0 19).toNatClampNeg x1 →
    zob G4 q0 13 ∧
    zob G4 q0 13 ∧
    zar G4 (zrv G4 q0 11) 0 ∧ vp_in (ziv G4 q0 19) (zln G4 (zrv G4 q0 11)) ∧
    ∀ G5, G5 = zsi G4 (zrv G4 q0 11) (ziv G4 q0 19).toNatClampNeg x2 →
    zW E l mX12_law d b G0 Q k3 117 [some (.ref q0), none, some (.int x2), some (.int 0)] [] G5) ∧
  (¬ (y1 = 0) →
    Q (.inl (some (.int 0))) G2)))
theorem wpt_X12_law_86 {E : ZE} {l : Launch} {d b : Nat} {G0 : ZG} {Q : ZQ} {k : Nat} {q0 : Nat} {x1 : Int32} {x2 : Int32} {s0 : Int32} {p1 : Nat} {G : ZG} (h : wp_X12_law_86 E l d b G0 Q k q0 x1 x2 s0 p1 G) : zW E l mX12_law d b G0 Q k 86 [some (.ref q0), some (.int x1), some (.int x2), none] [.int s0, .ref p1] G := by
  unfold wp_X12_law_86 at h
  refine z_iconst (x := 2) (pc' := 87) dX12_law_86 (by decide) rfl ?_
  obtain ⟨h1, h⟩ := h
  obtain ⟨d1, b1, Qz, hm, hdd, hb, hkx, hk⟩ := h
  refine z_callV (Y := mX12_throwsIf) (n := 2) (as := [.int s0, .int 2]) (st := []) (pc' := 90) (ci := 13) (q := p1) hm dX12_law_87 kX12_321 vX12_throwsIf rfl rfl (by decide) rfl h1 hdd hb (Nat.le_of_ble_eq_true rfl) (fun r G2 hz => ?_) hkx
  obtain ⟨y1, rfl, h⟩ := hk r G2 hz
  refine z_if_eq (pt := 95) (pc' := 93) dX12_law_90 (by decide) rfl (fun hc => ?_) (fun hc => ?_)
  · have h := h.1 hc
    refine z_aload_n (pc' := 96) dX12_law_95 rfl rfl ?_
    obtain ⟨h1, h⟩ := h
    refine z_getR (ci := 13) (kf := 10) (pc' := 99) dX12_law_96 kX12_21 (Or.inl rfl) (by decide) (by decide) rfl rfl h1 ?_
    refine z_aload_n (pc' := 100) dX12_law_99 rfl rfl ?_
    obtain ⟨h1, h⟩ := h
    refine z_getI (ci := 13) (kf := 19) (pc' := 103) dX12_law_100 kX12_328 (Or.inl rfl) (by decide) (by decide) rfl rfl h1 ?_
    refine z_iload_n (pc' := 104) dX12_law_103 rfl rfl ?_
    obtain ⟨h1, h2, h⟩ := h
    obtain ⟨G4, hG⟩ : ∃ z, z = zsi G2 (zrv G2 q0 10) (ziv G2 q0 19).toNatClampNeg x1 := ⟨_, rfl⟩
    have h := h _ hG
    refine z_iast (pc' := 105) dX12_law_104 rfl h1 h2  ?_
    refine z_st hG ?_
    refine z_aload_n (pc' := 106) dX12_law_105 rfl rfl ?_
    obtain ⟨h1, h⟩ := h
    refine z_getR (ci := 13) (kf := 11) (pc' := 109) dX12_law_106 kX12_24 (Or.inl rfl) (by decide) (by decide) rfl rfl h1 ?_
    refine z_aload_n (pc' := 110) dX12_law_109 rfl rfl ?_
    obtain ⟨h1, h⟩ := h
    refine z_getI (ci := 13) (kf := 19) (pc' := 113) dX12_law_110 kX12_328 (Or.inl rfl) (by decide) (by decide) rfl rfl h1 ?_
    refine z_iload_n (pc' := 114) dX12_law_113 rfl rfl ?_
    obtain ⟨h1, h2, h⟩ := h
    obtain ⟨G5, hG⟩ : ∃ z, z = zsi G4 (zrv G4 q0 11) (ziv G4 q0 19).toNatClampNeg x2 := ⟨_, rfl⟩
    have h := h _ hG
    refine z_iast (pc' := 115) dX12_law_114 rfl h1 h2  ?_
    refine z_st hG ?_
    refine z_iconst (x := 0) (pc' := 116) dX12_law_115 (by decide) rfl ?_
    refine z_istore_n (pc' := 117) dX12_law_116 (by decide) rfl ?_
    exact z_dr (ls' := [some (.ref q0), none, some (.int x2), some (.int 0)]) ⟨rfl, rfl, rfl, trivial⟩ h
  · have h := h.2 hc
    refine z_iconst (x := 0) (pc' := 94) dX12_law_93 (by decide) rfl ?_
    exact z_iret dX12_law_94 rfl h
def wp_X12_law_117 (E : ZE) (l : Launch) (d b : Nat) (G0 : ZG) (Q : ZQ) (k : Nat) (q0 : Nat) (x2 : Int32) (x3 : Int32) (G : ZG) : Prop :=
  ((x2 ≤ x3 →
    zW E l mX12_law d b G0 Q k 226 [some (.ref q0), none, some (.int x2), some (.int 0)] [] G) ∧
  (¬ (x2 ≤ x3) →
    zob G q0 13 ∧
    zob G q0 13 ∧
    zob G q0 13 ∧
    (zar G (zrv G q0 12) 0 ∨ zrd G (zrv G q0 12) .int) ∧ vp_in (192 + x3) (zln G (zrv G q0 12)) ∧
    zar G (zrv G q0 12) 0 ∧ vp_in ((16 * (ziv G q0 19)) + x3) (zln G (zrv G q0 12)) ∧
    ∀ G1, G1 = zsi G (zrv G q0 12) ((16 * (ziv G q0 19)) + x3).toNatClampNeg (ziv G (zrv G q0 12) (192 + x3).toNatClampNeg) →
    zob G1 q0 13 ∧
    zob G1 q0 13 ∧
    zob G1 q0 13 ∧
    (zar G1 (zrv G1 q0 13) 0 ∨ zrd G1 (zrv G1 q0 13) .int) ∧ vp_in (192 + x3) (zln G1 (zrv G1 q0 13)) ∧
    zar G1 (zrv G1 q0 13) 0 ∧ vp_in ((16 * (ziv G1 q0 19)) + x3) (zln G1 (zrv G1 q0 13)) ∧
    ∀ G2, G2 = zsi G1 (zrv G1 q0 13) ((16 * (ziv G1 q0 19)) + x3).toNatClampNeg (ziv G1 (zrv G1 q0 13) (192 + x3).toNatClampNeg) →
    zob G2 q0 13 ∧
    zob G2 q0 13 ∧
    zob G2 q0 13 ∧
    (zar G2 (zrv G2 q0 14) 0 ∨ zrd G2 (zrv G2 q0 14) .int) ∧ vp_in (192 + x3) (zln G2 (zrv G2 q0 14)) ∧
    zar G2 (zrv G2 q0 14) 0 ∧ vp_in ((16 * (ziv G2 q0 19)) + x3) (zln G2 (zrv G2 q0 14)) ∧
    ∀ G3, G3 = zsi G2 (zrv G2 q0 14) ((16 * (ziv G2 q0 19)) + x3).toNatClampNeg (ziv G2 (zrv G2 q0 14) (192 + x3).toNatClampNeg) →
    zob G3 q0 13 ∧
    zob G3 q0 13 ∧
    zob G3 q0 13 ∧
    (zar G3 (zrv G3 q0 15) 0 ∨ zrd G3 (zrv G3 q0 15) .int) ∧ vp_in (192 + x3) (zln G3 (zrv G3 q0 15)) ∧
    zar G3 (zrv G3 q0 15) 0 ∧ vp_in ((16 * (ziv G3 q0 19)) + x3) (zln G3 (zrv G3 q0 15)) ∧
    ∀ G4, G4 = zsi G3 (zrv G3 q0 15) ((16 * (ziv G3 q0 19)) + x3).toNatClampNeg (ziv G3 (zrv G3 q0 15) (192 + x3).toNatClampNeg) →
    zW E l mX12_law d b G0 Q k 117 [some (.ref q0), none, some (.int x2), some (.int (x3 + 1))] [] G4))
theorem wpt_X12_law_117 {E : ZE} {l : Launch} {d b : Nat} {G0 : ZG} {Q : ZQ} {k : Nat} {q0 : Nat} {x2 : Int32} {x3 : Int32} {G : ZG} (h : wp_X12_law_117 E l d b G0 Q k q0 x2 x3 G) : zW E l mX12_law d b G0 Q k 117 [some (.ref q0), none, some (.int x2), some (.int x3)] [] G := by
  unfold wp_X12_law_117 at h
  refine z_iload_n (pc' := 118) dX12_law_117 rfl rfl ?_
  refine z_iload_n (pc' := 119) dX12_law_118 rfl rfl ?_
  refine z_icmp_ge (pt := 224) (pc' := 122) dX12_law_119 (by decide) rfl (fun hc => ?_) (fun hc => ?_)
  · have h := h.1 hc
    refine z_iconst (x := 0) (pc' := 225) dX12_law_224 (by decide) rfl ?_
    refine z_istore_n (pc' := 226) dX12_law_225 (by decide) rfl ?_
    exact z_dr (ls' := [some (.ref q0), none, some (.int x2), some (.int 0)]) ⟨rfl, rfl, rfl, trivial⟩ h
  · have h := h.2 hc
    refine z_aload_n (pc' := 123) dX12_law_122 rfl rfl ?_
    obtain ⟨h1, h⟩ := h
    refine z_getR (ci := 13) (kf := 12) (pc' := 126) dX12_law_123 kX12_27 (Or.inl rfl) (by decide) (by decide) rfl rfl h1 ?_
    refine z_bipush (x := 16) (pc' := 128) dX12_law_126 (by decide) rfl ?_
    refine z_aload_n (pc' := 129) dX12_law_128 rfl rfl ?_
    obtain ⟨h1, h⟩ := h
    refine z_getI (ci := 13) (kf := 19) (pc' := 132) dX12_law_129 kX12_328 (Or.inl rfl) (by decide) (by decide) rfl rfl h1 ?_
    refine z_imul (pc' := 133) dX12_law_132 rfl rfl ?_
    refine z_iload_n (pc' := 134) dX12_law_133 rfl rfl ?_
    refine z_iadd (pc' := 135) dX12_law_134 rfl rfl ?_
    refine z_aload_n (pc' := 136) dX12_law_135 rfl rfl ?_
    obtain ⟨h1, h⟩ := h
    refine z_getR (ci := 13) (kf := 12) (pc' := 139) dX12_law_136 kX12_27 (Or.inl rfl) (by decide) (by decide) rfl rfl h1 ?_
    refine z_sipush (x := 192) (pc' := 142) dX12_law_139 (by decide) rfl ?_
    refine z_iload_n (pc' := 143) dX12_law_142 rfl rfl ?_
    refine z_iadd (pc' := 144) dX12_law_143 rfl rfl ?_
    obtain ⟨h1, h2, h⟩ := h
    refine z_iald (pc' := 145) dX12_law_144 rfl h1 h2 ?_
    obtain ⟨h1, h2, h⟩ := h
    obtain ⟨G1, hG⟩ : ∃ z, z = zsi G (zrv G q0 12) ((16 * (ziv G q0 19)) + x3).toNatClampNeg (ziv G (zrv G q0 12) (192 + x3).toNatClampNeg) := ⟨_, rfl⟩
    have h := h _ hG
    refine z_iast (pc' := 146) dX12_law_145 rfl h1 h2  ?_
    refine z_st hG ?_
    refine z_aload_n (pc' := 147) dX12_law_146 rfl rfl ?_
    obtain ⟨h1, h⟩ := h
    refine z_getR (ci := 13) (kf := 13) (pc' := 150) dX12_law_147 kX12_30 (Or.inl rfl) (by decide) (by decide) rfl rfl h1 ?_
    refine z_bipush (x := 16) (pc' := 152) dX12_law_150 (by decide) rfl ?_
    refine z_aload_n (pc' := 153) dX12_law_152 rfl rfl ?_
    obtain ⟨h1, h⟩ := h
    refine z_getI (ci := 13) (kf := 19) (pc' := 156) dX12_law_153 kX12_328 (Or.inl rfl) (by decide) (by decide) rfl rfl h1 ?_
    refine z_imul (pc' := 157) dX12_law_156 rfl rfl ?_
    refine z_iload_n (pc' := 158) dX12_law_157 rfl rfl ?_
    refine z_iadd (pc' := 159) dX12_law_158 rfl rfl ?_
    refine z_aload_n (pc' := 160) dX12_law_159 rfl rfl ?_
    obtain ⟨h1, h⟩ := h
    refine z_getR (ci := 13) (kf := 13) (pc' := 163) dX12_law_160 kX12_30 (Or.inl rfl) (by decide) (by decide) rfl rfl h1 ?_
    refine z_sipush (x := 192) (pc' := 166) dX12_law_163 (by decide) rfl ?_
    refine z_iload_n (pc' := 167) dX12_law_166 rfl rfl ?_
    refine z_iadd (pc' := 168) dX12_law_167 rfl rfl ?_
    obtain ⟨h1, h2, h⟩ := h
    refine z_iald (pc' := 169) dX12_law_168 rfl h1 h2 ?_
    obtain ⟨h1, h2, h⟩ := h
    obtain ⟨G2, hG⟩ : ∃ z, z = zsi G1 (zrv G1 q0 13) ((16 * (ziv G1 q0 19)) + x3).toNatClampNeg (ziv G1 (zrv G1 q0 13) (192 + x3).toNatClampNeg) := ⟨_, rfl⟩
    have h := h _ hG
    refine z_iast (pc' := 170) dX12_law_169 rfl h1 h2  ?_
    refine z_st hG ?_
    refine z_aload_n (pc' := 171) dX12_law_170 rfl rfl ?_
    obtain ⟨h1, h⟩ := h
    refine z_getR (ci := 13) (kf := 14) (pc' := 174) dX12_law_171 kX12_33 (Or.inl rfl) (by decide) (by decide) rfl rfl h1 ?_
    refine z_bipush (x := 16) (pc' := 176) dX12_law_174 (by decide) rfl ?_
    refine z_aload_n (pc' := 177) dX12_law_176 rfl rfl ?_
    obtain ⟨h1, h⟩ := h
    refine z_getI (ci := 13) (kf := 19) (pc' := 180) dX12_law_177 kX12_328 (Or.inl rfl) (by decide) (by decide) rfl rfl h1 ?_
    refine z_imul (pc' := 181) dX12_law_180 rfl rfl ?_
    refine z_iload_n (pc' := 182) dX12_law_181 rfl rfl ?_
    refine z_iadd (pc' := 183) dX12_law_182 rfl rfl ?_
    refine z_aload_n (pc' := 184) dX12_law_183 rfl rfl ?_
    obtain ⟨h1, h⟩ := h
    refine z_getR (ci := 13) (kf := 14) (pc' := 187) dX12_law_184 kX12_33 (Or.inl rfl) (by decide) (by decide) rfl rfl h1 ?_
    refine z_sipush (x := 192) (pc' := 190) dX12_law_187 (by decide) rfl ?_
    refine z_iload_n (pc' := 191) dX12_law_190 rfl rfl ?_
    refine z_iadd (pc' := 192) dX12_law_191 rfl rfl ?_
    obtain ⟨h1, h2, h⟩ := h
    refine z_iald (pc' := 193) dX12_law_192 rfl h1 h2 ?_
    obtain ⟨h1, h2, h⟩ := h
    obtain ⟨G3, hG⟩ : ∃ z, z = zsi G2 (zrv G2 q0 14) ((16 * (ziv G2 q0 19)) + x3).toNatClampNeg (ziv G2 (zrv G2 q0 14) (192 + x3).toNatClampNeg) := ⟨_, rfl⟩
    have h := h _ hG
    refine z_iast (pc' := 194) dX12_law_193 rfl h1 h2  ?_
    refine z_st hG ?_
    refine z_aload_n (pc' := 195) dX12_law_194 rfl rfl ?_
    obtain ⟨h1, h⟩ := h
    refine z_getR (ci := 13) (kf := 15) (pc' := 198) dX12_law_195 kX12_36 (Or.inl rfl) (by decide) (by decide) rfl rfl h1 ?_
    refine z_bipush (x := 16) (pc' := 200) dX12_law_198 (by decide) rfl ?_
    refine z_aload_n (pc' := 201) dX12_law_200 rfl rfl ?_
    obtain ⟨h1, h⟩ := h
    refine z_getI (ci := 13) (kf := 19) (pc' := 204) dX12_law_201 kX12_328 (Or.inl rfl) (by decide) (by decide) rfl rfl h1 ?_
    refine z_imul (pc' := 205) dX12_law_204 rfl rfl ?_
    refine z_iload_n (pc' := 206) dX12_law_205 rfl rfl ?_
    refine z_iadd (pc' := 207) dX12_law_206 rfl rfl ?_
    refine z_aload_n (pc' := 208) dX12_law_207 rfl rfl ?_
    obtain ⟨h1, h⟩ := h
    refine z_getR (ci := 13) (kf := 15) (pc' := 211) dX12_law_208 kX12_36 (Or.inl rfl) (by decide) (by decide) rfl rfl h1 ?_
    refine z_sipush (x := 192) (pc' := 214) dX12_law_211 (by decide) rfl ?_
    refine z_iload_n (pc' := 215) dX12_law_214 rfl rfl ?_
    refine z_iadd (pc' := 216) dX12_law_215 rfl rfl ?_
    obtain ⟨h1, h2, h⟩ := h
    refine z_iald (pc' := 217) dX12_law_216 rfl h1 h2 ?_
    obtain ⟨h1, h2, h⟩ := h
    obtain ⟨G4, hG⟩ : ∃ z, z = zsi G3 (zrv G3 q0 15) ((16 * (ziv G3 q0 19)) + x3).toNatClampNeg (ziv G3 (zrv G3 q0 15) (192 + x3).toNatClampNeg) := ⟨_, rfl⟩
    have h := h _ hG
    refine z_iast (pc' := 218) dX12_law_217 rfl h1 h2  ?_
    refine z_st hG ?_
    refine z_iinc (y := x3 + 1) (pc' := 221) dX12_law_218 rfl (zinc_1 _) (by decide) rfl ?_
    refine z_goto (pc' := 117) dX12_law_221 (by decide) ?_
    exact z_dr (ls' := [some (.ref q0), none, some (.int x2), some (.int (x3 + 1))]) ⟨rfl, rfl, rfl, trivial⟩ h
def wp_X12_law_226 (E : ZE) (l : Launch) (d b : Nat) (G0 : ZG) (Q : ZQ) (k : Nat) (q0 : Nat) (x2 : Int32) (x3 : Int32) (G : ZG) : Prop :=
  zob G q0 13 ∧
  (((ziv G q0 20) ≤ x3 →
    zob G q0 13 ∧
    zob G q0 13 ∧
    ∀ G1, G1 = zsi G q0 19 ((ziv G q0 19) + 1) →
    Q (.inl (some (.int x2))) G1) ∧
  (¬ ((ziv G q0 20) ≤ x3) →
    zob G q0 13 ∧
    zob G q0 13 ∧
    zob G q0 13 ∧
    (zar G (zrv G q0 16) 0 ∨ zrd G (zrv G q0 16) .int) ∧ vp_in (4800 + x3) (zln G (zrv G q0 16)) ∧
    zar G (zrv G q0 16) 0 ∧ vp_in ((400 * (ziv G q0 19)) + x3) (zln G (zrv G q0 16)) ∧
    ∀ G2, G2 = zsi G (zrv G q0 16) ((400 * (ziv G q0 19)) + x3).toNatClampNeg (ziv G (zrv G q0 16) (4800 + x3).toNatClampNeg) →
    zob G2 q0 13 ∧
    zob G2 q0 13 ∧
    zob G2 q0 13 ∧
    (zar G2 (zrv G2 q0 17) 0 ∨ zrd G2 (zrv G2 q0 17) .int) ∧ vp_in (4800 + x3) (zln G2 (zrv G2 q0 17)) ∧
    zar G2 (zrv G2 q0 17) 0 ∧ vp_in ((400 * (ziv G2 q0 19)) + x3) (zln G2 (zrv G2 q0 17)) ∧
    ∀ G3, G3 = zsi G2 (zrv G2 q0 17) ((400 * (ziv G2 q0 19)) + x3).toNatClampNeg (ziv G2 (zrv G2 q0 17) (4800 + x3).toNatClampNeg) →
    zob G3 q0 13 ∧
    zob G3 q0 13 ∧
    zob G3 q0 13 ∧
    (zar G3 (zrv G3 q0 18) 0 ∨ zrd G3 (zrv G3 q0 18) .int) ∧ vp_in (4800 + x3) (zln G3 (zrv G3 q0 18)) ∧
    zar G3 (zrv G3 q0 18) 0 ∧ vp_in ((400 * (ziv G3 q0 19)) + x3) (zln G3 (zrv G3 q0 18)) ∧
    ∀ G4, G4 = zsi G3 (zrv G3 q0 18) ((400 * (ziv G3 q0 19)) + x3).toNatClampNeg (ziv G3 (zrv G3 q0 18) (4800 + x3).toNatClampNeg) →
    zW E l mX12_law d b G0 Q k 226 [some (.ref q0), none, some (.int x2), some (.int (x3 + 1))] [] G4))
theorem wpt_X12_law_226 {E : ZE} {l : Launch} {d b : Nat} {G0 : ZG} {Q : ZQ} {k : Nat} {q0 : Nat} {x2 : Int32} {x3 : Int32} {G : ZG} (h : wp_X12_law_226 E l d b G0 Q k q0 x2 x3 G) : zW E l mX12_law d b G0 Q k 226 [some (.ref q0), none, some (.int x2), some (.int x3)] [] G := by
  unfold wp_X12_law_226 at h
  refine z_iload_n (pc' := 227) dX12_law_226 rfl rfl ?_
  refine z_aload_n (pc' := 228) dX12_law_227 rfl rfl ?_
  obtain ⟨h1, h⟩ := h
  refine z_getI (ci := 13) (kf := 20) (pc' := 231) dX12_law_228 kX12_217 (Or.inl rfl) (by decide) (by decide) rfl rfl h1 ?_
  refine z_icmp_ge (pt := 315) (pc' := 234) dX12_law_231 (by decide) rfl (fun hc => ?_) (fun hc => ?_)
  · have h := h.1 hc
    refine z_aload_n (pc' := 316) dX12_law_315 rfl rfl ?_
    refine z_dup (pc' := 317) dX12_law_316 rfl rfl ?_
    obtain ⟨h1, h⟩ := h
    refine z_getI (ci := 13) (kf := 19) (pc' := 320) dX12_law_317 kX12_328 (Or.inl rfl) (by decide) (by decide) rfl rfl h1 ?_
    refine z_iconst (x := 1) (pc' := 321) dX12_law_320 (by decide) rfl ?_
    refine z_iadd (pc' := 322) dX12_law_321 rfl rfl ?_
    obtain ⟨h1, h⟩ := h
    obtain ⟨G1, hG⟩ : ∃ z, z = zsi G q0 19 ((ziv G q0 19) + 1) := ⟨_, rfl⟩
    have h := h _ hG
    refine z_putI (ci := 13) (kf := 19) (pc' := 325) dX12_law_322 kX12_328 (Or.inl rfl) (by decide) (by decide) rfl (Or.inl rfl) rfl h1 (zok_int _) ?_
    refine z_st hG ?_
    refine z_iload_n (pc' := 326) dX12_law_325 rfl rfl ?_
    exact z_iret dX12_law_326 rfl h
  · have h := h.2 hc
    refine z_aload_n (pc' := 235) dX12_law_234 rfl rfl ?_
    obtain ⟨h1, h⟩ := h
    refine z_getR (ci := 13) (kf := 16) (pc' := 238) dX12_law_235 kX12_39 (Or.inl rfl) (by decide) (by decide) rfl rfl h1 ?_
    refine z_sipush (x := 400) (pc' := 241) dX12_law_238 (by decide) rfl ?_
    refine z_aload_n (pc' := 242) dX12_law_241 rfl rfl ?_
    obtain ⟨h1, h⟩ := h
    refine z_getI (ci := 13) (kf := 19) (pc' := 245) dX12_law_242 kX12_328 (Or.inl rfl) (by decide) (by decide) rfl rfl h1 ?_
    refine z_imul (pc' := 246) dX12_law_245 rfl rfl ?_
    refine z_iload_n (pc' := 247) dX12_law_246 rfl rfl ?_
    refine z_iadd (pc' := 248) dX12_law_247 rfl rfl ?_
    refine z_aload_n (pc' := 249) dX12_law_248 rfl rfl ?_
    obtain ⟨h1, h⟩ := h
    refine z_getR (ci := 13) (kf := 16) (pc' := 252) dX12_law_249 kX12_39 (Or.inl rfl) (by decide) (by decide) rfl rfl h1 ?_
    refine z_sipush (x := 4800) (pc' := 255) dX12_law_252 (by decide) rfl ?_
    refine z_iload_n (pc' := 256) dX12_law_255 rfl rfl ?_
    refine z_iadd (pc' := 257) dX12_law_256 rfl rfl ?_
    obtain ⟨h1, h2, h⟩ := h
    refine z_iald (pc' := 258) dX12_law_257 rfl h1 h2 ?_
    obtain ⟨h1, h2, h⟩ := h
    obtain ⟨G2, hG⟩ : ∃ z, z = zsi G (zrv G q0 16) ((400 * (ziv G q0 19)) + x3).toNatClampNeg (ziv G (zrv G q0 16) (4800 + x3).toNatClampNeg) := ⟨_, rfl⟩
    have h := h _ hG
    refine z_iast (pc' := 259) dX12_law_258 rfl h1 h2  ?_
    refine z_st hG ?_
    refine z_aload_n (pc' := 260) dX12_law_259 rfl rfl ?_
    obtain ⟨h1, h⟩ := h
    refine z_getR (ci := 13) (kf := 17) (pc' := 263) dX12_law_260 kX12_42 (Or.inl rfl) (by decide) (by decide) rfl rfl h1 ?_
    refine z_sipush (x := 400) (pc' := 266) dX12_law_263 (by decide) rfl ?_
    refine z_aload_n (pc' := 267) dX12_law_266 rfl rfl ?_
    obtain ⟨h1, h⟩ := h
    refine z_getI (ci := 13) (kf := 19) (pc' := 270) dX12_law_267 kX12_328 (Or.inl rfl) (by decide) (by decide) rfl rfl h1 ?_
    refine z_imul (pc' := 271) dX12_law_270 rfl rfl ?_
    refine z_iload_n (pc' := 272) dX12_law_271 rfl rfl ?_
    refine z_iadd (pc' := 273) dX12_law_272 rfl rfl ?_
    refine z_aload_n (pc' := 274) dX12_law_273 rfl rfl ?_
    obtain ⟨h1, h⟩ := h
    refine z_getR (ci := 13) (kf := 17) (pc' := 277) dX12_law_274 kX12_42 (Or.inl rfl) (by decide) (by decide) rfl rfl h1 ?_
    refine z_sipush (x := 4800) (pc' := 280) dX12_law_277 (by decide) rfl ?_
    refine z_iload_n (pc' := 281) dX12_law_280 rfl rfl ?_
    refine z_iadd (pc' := 282) dX12_law_281 rfl rfl ?_
    obtain ⟨h1, h2, h⟩ := h
    refine z_iald (pc' := 283) dX12_law_282 rfl h1 h2 ?_
    obtain ⟨h1, h2, h⟩ := h
    obtain ⟨G3, hG⟩ : ∃ z, z = zsi G2 (zrv G2 q0 17) ((400 * (ziv G2 q0 19)) + x3).toNatClampNeg (ziv G2 (zrv G2 q0 17) (4800 + x3).toNatClampNeg) := ⟨_, rfl⟩
    have h := h _ hG
    refine z_iast (pc' := 284) dX12_law_283 rfl h1 h2  ?_
    refine z_st hG ?_
    refine z_aload_n (pc' := 285) dX12_law_284 rfl rfl ?_
    obtain ⟨h1, h⟩ := h
    refine z_getR (ci := 13) (kf := 18) (pc' := 288) dX12_law_285 kX12_45 (Or.inl rfl) (by decide) (by decide) rfl rfl h1 ?_
    refine z_sipush (x := 400) (pc' := 291) dX12_law_288 (by decide) rfl ?_
    refine z_aload_n (pc' := 292) dX12_law_291 rfl rfl ?_
    obtain ⟨h1, h⟩ := h
    refine z_getI (ci := 13) (kf := 19) (pc' := 295) dX12_law_292 kX12_328 (Or.inl rfl) (by decide) (by decide) rfl rfl h1 ?_
    refine z_imul (pc' := 296) dX12_law_295 rfl rfl ?_
    refine z_iload_n (pc' := 297) dX12_law_296 rfl rfl ?_
    refine z_iadd (pc' := 298) dX12_law_297 rfl rfl ?_
    refine z_aload_n (pc' := 299) dX12_law_298 rfl rfl ?_
    obtain ⟨h1, h⟩ := h
    refine z_getR (ci := 13) (kf := 18) (pc' := 302) dX12_law_299 kX12_45 (Or.inl rfl) (by decide) (by decide) rfl rfl h1 ?_
    refine z_sipush (x := 4800) (pc' := 305) dX12_law_302 (by decide) rfl ?_
    refine z_iload_n (pc' := 306) dX12_law_305 rfl rfl ?_
    refine z_iadd (pc' := 307) dX12_law_306 rfl rfl ?_
    obtain ⟨h1, h2, h⟩ := h
    refine z_iald (pc' := 308) dX12_law_307 rfl h1 h2 ?_
    obtain ⟨h1, h2, h⟩ := h
    obtain ⟨G4, hG⟩ : ∃ z, z = zsi G3 (zrv G3 q0 18) ((400 * (ziv G3 q0 19)) + x3).toNatClampNeg (ziv G3 (zrv G3 q0 18) (4800 + x3).toNatClampNeg) := ⟨_, rfl⟩
    have h := h _ hG
    refine z_iast (pc' := 309) dX12_law_308 rfl h1 h2  ?_
    refine z_st hG ?_
    refine z_iinc (y := x3 + 1) (pc' := 312) dX12_law_309 rfl (zinc_1 _) (by decide) rfl ?_
    refine z_goto (pc' := 226) dX12_law_312 (by decide) ?_
    exact z_dr (ls' := [some (.ref q0), none, some (.int x2), some (.int (x3 + 1))]) ⟨rfl, rfl, rfl, trivial⟩ h
def wp_X12_lawOf_0 (E : ZE) (l : Launch) (d b : Nat) (G0 : ZG) (Q : ZQ) (k : Nat) (q0 : Nat) (x1 : Int32) (G : ZG) : Prop :=
  zW E l mX12_lawOf d b G0 Q k 4 [some (.ref q0), some (.int x1), some (.int (-1)), some (.int 0)] [] G
theorem wpt_X12_lawOf_0 {E : ZE} {l : Launch} {d b : Nat} {G0 : ZG} {Q : ZQ} {k : Nat} {q0 : Nat} {x1 : Int32} {G : ZG} (h : wp_X12_lawOf_0 E l d b G0 Q k q0 x1 G) : zW E l mX12_lawOf d b G0 Q k 0 [some (.ref q0), some (.int x1), none, none] [] G := by
  unfold wp_X12_lawOf_0 at h
  refine z_iconst (x := (-1)) (pc' := 1) dX12_lawOf_0 (by decide) rfl ?_
  refine z_istore_n (pc' := 2) dX12_lawOf_1 (by decide) rfl ?_
  refine z_iconst (x := 0) (pc' := 3) dX12_lawOf_2 (by decide) rfl ?_
  refine z_istore_n (pc' := 4) dX12_lawOf_3 (by decide) rfl ?_
  exact z_dr (ls' := [some (.ref q0), some (.int x1), some (.int (-1)), some (.int 0)]) ⟨rfl, rfl, rfl, rfl, trivial⟩ h
def wp_X12_lawOf_4 (E : ZE) (l : Launch) (d b : Nat) (G0 : ZG) (Q : ZQ) (k : Nat) (q0 : Nat) (x1 : Int32) (x2 : Int32) (x3 : Int32) (G : ZG) : Prop :=
  zob G q0 13 ∧
  (((ziv G q0 19) ≤ x3 →
    Q (.inl (some (.int x2))) G) ∧
  (¬ ((ziv G q0 19) ≤ x3) →
    zob G q0 13 ∧
    (zar G (zrv G q0 10) 0 ∨ zrd G (zrv G q0 10) .int) ∧ vp_in x3 (zln G (zrv G q0 10)) ∧
    ((x1 < (ziv G (zrv G q0 10) x3.toNatClampNeg) →
      zW E l mX12_lawOf d b G0 Q k 4 [some (.ref q0), some (.int x1), some (.int x2), some (.int (x3 + 1))] [] G) ∧
    (¬ (x1 < (ziv G (zrv G q0 10) x3.toNatClampNeg)) →
      ((x2 < 0 →
        zW E l mX12_lawOf d b G0 Q k 4 [some (.ref q0), some (.int x1), some (.int x3), some (.int (x3 + 1))] [] G) ∧
      (¬ (x2 < 0) →
        zob G q0 13 ∧
        (zar G (zrv G q0 10) 0 ∨ zrd G (zrv G q0 10) .int) ∧ vp_in x3 (zln G (zrv G q0 10)) ∧
        zob G q0 13 ∧
        (zar G (zrv G q0 10) 0 ∨ zrd G (zrv G q0 10) .int) ∧ vp_in x2 (zln G (zrv G q0 10)) ∧
        (((ziv G (zrv G q0 10) x3.toNatClampNeg) < (ziv G (zrv G q0 10) x2.toNatClampNeg) →
          zW E l mX12_lawOf d b G0 Q k 4 [some (.ref q0), some (.int x1), some (.int x2), some (.int (x3 + 1))] [] G) ∧
        (¬ ((ziv G (zrv G q0 10) x3.toNatClampNeg) < (ziv G (zrv G q0 10) x2.toNatClampNeg)) →
          zW E l mX12_lawOf d b G0 Q k 4 [some (.ref q0), some (.int x1), some (.int x3), some (.int (x3 + 1))] [] G))))))))
theorem wpt_X12_lawOf_4 {E : ZE} {l : Launch} {d b : Nat} {G0 : ZG} {Q : ZQ} {k : Nat} {q0 : Nat} {x1 : Int32} {x2 : Int32} {x3 : Int32} {G : ZG} (h : wp_X12_lawOf_4 E l d b G0 Q k q0 x1 x2 x3 G) : zW E l mX12_lawOf d b G0 Q k 4 [some (.ref q0), some (.int x1), some (.int x2), some (.int x3)] [] G := by
  unfold wp_X12_lawOf_4 at h
  refine z_iload_n (pc' := 5) dX12_lawOf_4 rfl rfl ?_
  refine z_aload_n (pc' := 6) dX12_lawOf_5 rfl rfl ?_
  obtain ⟨h1, h⟩ := h
  refine z_getI (ci := 13) (kf := 19) (pc' := 9) dX12_lawOf_6 kX12_328 (Or.inl rfl) (by decide) (by decide) rfl rfl h1 ?_
  refine z_icmp_ge (pt := 49) (pc' := 12) dX12_lawOf_9 (by decide) rfl (fun hc => ?_) (fun hc => ?_)
  · have h := h.1 hc
    refine z_iload_n (pc' := 50) dX12_lawOf_49 rfl rfl ?_
    exact z_iret dX12_lawOf_50 rfl h
  · have h := h.2 hc
    refine z_aload_n (pc' := 13) dX12_lawOf_12 rfl rfl ?_
    obtain ⟨h1, h⟩ := h
    refine z_getR (ci := 13) (kf := 10) (pc' := 16) dX12_lawOf_13 kX12_21 (Or.inl rfl) (by decide) (by decide) rfl rfl h1 ?_
    refine z_iload_n (pc' := 17) dX12_lawOf_16 rfl rfl ?_
    obtain ⟨h1, h2, h⟩ := h
    refine z_iald (pc' := 18) dX12_lawOf_17 rfl h1 h2 ?_
    refine z_iload_n (pc' := 19) dX12_lawOf_18 rfl rfl ?_
    refine z_icmp_gt (pt := 43) (pc' := 22) dX12_lawOf_19 (by decide) rfl (fun hc => ?_) (fun hc => ?_)
    · have h := h.1 hc
      refine z_iinc (y := x3 + 1) (pc' := 46) dX12_lawOf_43 rfl (zinc_1 _) (by decide) rfl ?_
      refine z_goto (pc' := 4) dX12_lawOf_46 (by decide) ?_
      exact z_dr (ls' := [some (.ref q0), some (.int x1), some (.int x2), some (.int (x3 + 1))]) ⟨rfl, rfl, rfl, rfl, trivial⟩ h
    · have h := h.2 hc
      refine z_iload_n (pc' := 23) dX12_lawOf_22 rfl rfl ?_
      refine z_if_lt (pt := 41) (pc' := 26) dX12_lawOf_23 (by decide) rfl (fun hc => ?_) (fun hc => ?_)
      · have h := h.1 hc
        refine z_iload_n (pc' := 42) dX12_lawOf_41 rfl rfl ?_
        refine z_istore_n (pc' := 43) dX12_lawOf_42 (by decide) rfl ?_
        refine z_iinc (y := x3 + 1) (pc' := 46) dX12_lawOf_43 rfl (zinc_1 _) (by decide) rfl ?_
        refine z_goto (pc' := 4) dX12_lawOf_46 (by decide) ?_
        exact z_dr (ls' := [some (.ref q0), some (.int x1), some (.int x3), some (.int (x3 + 1))]) ⟨rfl, rfl, rfl, rfl, trivial⟩ h
      · have h := h.2 hc
        refine z_aload_n (pc' := 27) dX12_lawOf_26 rfl rfl ?_
        obtain ⟨h1, h⟩ := h
        refine z_getR (ci := 13) (kf := 10) (pc' := 30) dX12_lawOf_27 kX12_21 (Or.inl rfl) (by decide) (by decide) rfl rfl h1 ?_
        refine z_iload_n (pc' := 31) dX12_lawOf_30 rfl rfl ?_
        obtain ⟨h1, h2, h⟩ := h
        refine z_iald (pc' := 32) dX12_lawOf_31 rfl h1 h2 ?_
        refine z_aload_n (pc' := 33) dX12_lawOf_32 rfl rfl ?_
        obtain ⟨h1, h⟩ := h
        refine z_getR (ci := 13) (kf := 10) (pc' := 36) dX12_lawOf_33 kX12_21 (Or.inl rfl) (by decide) (by decide) rfl rfl h1 ?_
        refine z_iload_n (pc' := 37) dX12_lawOf_36 rfl rfl ?_
        obtain ⟨h1, h2, h⟩ := h
        refine z_iald (pc' := 38) dX12_lawOf_37 rfl h1 h2 ?_
        refine z_icmp_lt (pt := 43) (pc' := 41) dX12_lawOf_38 (by decide) rfl (fun hc => ?_) (fun hc => ?_)
        · have h := h.1 hc
          refine z_iinc (y := x3 + 1) (pc' := 46) dX12_lawOf_43 rfl (zinc_1 _) (by decide) rfl ?_
          refine z_goto (pc' := 4) dX12_lawOf_46 (by decide) ?_
          exact z_dr (ls' := [some (.ref q0), some (.int x1), some (.int x2), some (.int (x3 + 1))]) ⟨rfl, rfl, rfl, rfl, trivial⟩ h
        · have h := h.2 hc
          refine z_iload_n (pc' := 42) dX12_lawOf_41 rfl rfl ?_
          refine z_istore_n (pc' := 43) dX12_lawOf_42 (by decide) rfl ?_
          refine z_iinc (y := x3 + 1) (pc' := 46) dX12_lawOf_43 rfl (zinc_1 _) (by decide) rfl ?_
          refine z_goto (pc' := 4) dX12_lawOf_46 (by decide) ?_
          exact z_dr (ls' := [some (.ref q0), some (.int x1), some (.int x3), some (.int (x3 + 1))]) ⟨rfl, rfl, rfl, rfl, trivial⟩ h
def wp_X12_led_0 (E : ZE) (l : Launch) (d b : Nat) (G0 : ZG) (Q : ZQ) (k : Nat) (q0 : Nat) (x1 : Int32) (x2 : Int32) (G : ZG) : Prop :=
  zob G q0 13 ∧
  ∀ G1, G1 = zsi G q0 0 0 →
  zob G1 q0 13 ∧
  xcI E l mX12_noAsking d [.ref q0, .int x1] G1 k (fun X G9 => Q (.inr X) G9) (fun y2 G3 k4 =>
  zob G3 q0 13 ∧
  xcI E l mX12_throwsIf d [.ref q0, .int y2, .int 1] G3 k4 (fun X G9 => Q (.inr X) G9) (fun y5 G6 k7 =>
  ((y5 = 0 →
    ((x2 = 0 →
      zob G6 q0 13 ∧
      xcI E l mX12_now d [.ref q0, .int x1, .int 0] G6 k7 (fun X G9 => Q (.inr X) G9) (fun y8 G9 k10 =>
      Q (.inl (some (.int y8))) G9)) ∧
    ((x2 = 1 →
      zob G6 q0 13 ∧
      (zar G6 (zrv G6 q0 53) 0 ∨ zrd G6 (zrv G6 q0 53) .int) ∧ vp_in x1 (zln G6 (zrv G6 q0 53)) ∧
      Q (.inl (some (.int (ziv G6 (zrv G6 q0 53) x1.toNatClampNeg)))) G6) ∧
    ((x2 = 2 →
      zob G6 q0 13 ∧
      (zar G6 (zrv G6 q0 54) 0 ∨ zrd G6 (zrv G6 q0 54) .int) ∧ vp_in x1 (zln G6 (zrv G6 q0 54)) ∧
      Q (.inl (some (.int (ziv G6 (zrv G6 q0 54) x1.toNatClampNeg)))) G6) ∧
    ((x2 = 3 →
      zob G6 q0 13 ∧
      (zar G6 (zrv G6 q0 55) 0 ∨ zrd G6 (zrv G6 q0 55) .int) ∧ vp_in x1 (zln G6 (zrv G6 q0 55)) ∧
      Q (.inl (some (.int (ziv G6 (zrv G6 q0 55) x1.toNatClampNeg)))) G6) ∧
    ((x2 = 4 →
      zob G6 q0 13 ∧
      (zar G6 (zrv G6 q0 56) 0 ∨ zrd G6 (zrv G6 q0 56) .int) ∧ vp_in x1 (zln G6 (zrv G6 q0 56)) ∧
      Q (.inl (some (.int (ziv G6 (zrv G6 q0 56) x1.toNatClampNeg)))) G6) ∧
    ((x2 = 5 →
      zob G6 q0 13 ∧
      (zar G6 (zrv G6 q0 57) 0 ∨ zrd G6 (zrv G6 q0 57) .int) ∧ vp_in x1 (zln G6 (zrv G6 q0 57)) ∧
      Q (.inl (some (.int (ziv G6 (zrv G6 q0 57) x1.toNatClampNeg)))) G6) ∧
    ((x2 = 6 →
      zob G6 q0 13 ∧
      xcI E l mX12_lacksOf d [.ref q0, .int x1] G6 k7 (fun X G9 => Q (.inr X) G9) (fun y11 G12 k13 =>
      Q (.inl (some (.int y11))) G12)) ∧
    ((x2 = 7 →
      zob G6 q0 13 ∧
      (zar G6 (zrv G6 q0 60) 0 ∨ zrd G6 (zrv G6 q0 60) .int) ∧ vp_in x1 (zln G6 (zrv G6 q0 60)) ∧
      Q (.inl (some (.int (ziv G6 (zrv G6 q0 60) x1.toNatClampNeg)))) G6) ∧
    ((x2 = 8 →
      zob G6 q0 13 ∧
      xcI E l mX12_now d [.ref q0, .int x1, .int 6] G6 k7 (fun X G9 => Q (.inr X) G9) (fun y14 G15 k16 =>
      Q (.inl (some (.int y14))) G15)) ∧
    ((x2 = 9 →
      zob G6 q0 13 ∧
      (zar G6 (zrv G6 q0 62) 0 ∨ zrd G6 (zrv G6 q0 62) .int) ∧ vp_in x1 (zln G6 (zrv G6 q0 62)) ∧
      Q (.inl (some (.int (ziv G6 (zrv G6 q0 62) x1.toNatClampNeg)))) G6) ∧
    ((x2 = 10 →
      zob G6 q0 13 ∧
      (zar G6 (zrv G6 q0 61) 0 ∨ zrd G6 (zrv G6 q0 61) .int) ∧ vp_in x1 (zln G6 (zrv G6 q0 61)) ∧
      Q (.inl (some (.int (ziv G6 (zrv G6 q0 61) x1.toNatClampNeg)))) G6) ∧
    ((x2 = 11 →
      zob G6 q0 13 ∧
      xcI E l mX12_now d [.ref q0, .int x1, .int 1] G6 k7 (fun X G9 => Q (.inr X) G9) (fun y17 G18 k19 =>
      Q (.inl (some (.int y17))) G18)) ∧
    ((x2 = 12 →
      zob G6 q0 13 ∧
      xcI E l mX12_now d [.ref q0, .int x1, .int 2] G6 k7 (fun X G9 => Q (.inr X) G9) (fun y20 G21 k22 =>
      Q (.inl (some (.int y20))) G21)) ∧
    ((x2 = 13 →
      zob G6 q0 13 ∧
      xcI E l mX12_now d [.ref q0, .int x1, .int 3] G6 k7 (fun X G9 => Q (.inr X) G9) (fun y23 G24 k25 =>
      Q (.inl (some (.int y23))) G24)) ∧
    ((x2 = 14 →
      zob G6 q0 13 ∧
      xcI E l mX12_now d [.ref q0, .int x1, .int 4] G6 k7 (fun X G9 => Q (.inr X) G9) (fun y26 G27 k28 =>
      Q (.inl (some (.int y26))) G27)) ∧
    ((x2 = 15 →
      zob G6 q0 13 ∧
      xcI E l mX12_now d [.ref q0, .int x1, .int 5] G6 k7 (fun X G9 => Q (.inr X) G9) (fun y29 G30 k31 =>
      Q (.inl (some (.int y29))) G30)) ∧
    (¬ x2 = 0 → ¬ x2 = 1 → ¬ x2 = 2 → ¬ x2 = 3 → ¬ x2 = 4 → ¬ x2 = 5 → ¬ x2 = 6 → ¬ x2 = 7 → ¬ x2 = 8 → ¬ x2 = 9 → ¬ x2 = 10 → ¬ x2 = 11 → ¬ x2 = 12 → ¬ x2 = 13 → ¬ x2 = 14 → ¬ x2 = 15 →
      zob G6 q0 13 ∧
      ∀ G32, G32 = zsi G6 q0 0 2 →
      Q (.inl (some (.int 0))) G32)))))))))))))))))) ∧
  (¬ (y5 = 0) →
    Q (.inl (some (.int 0))) G6))))
theorem wpt_X12_led_0 {E : ZE} {l : Launch} {d b : Nat} {G0 : ZG} {Q : ZQ} {k : Nat} {q0 : Nat} {x1 : Int32} {x2 : Int32} {G : ZG} (h : wp_X12_led_0 E l d b G0 Q k q0 x1 x2 G) : zW E l mX12_led d b G0 Q k 0 [some (.ref q0), some (.int x1), some (.int x2)] [] G := by
  unfold wp_X12_led_0 at h
  refine z_aload_n (pc' := 1) dX12_led_0 rfl rfl ?_
  refine z_iconst (x := 0) (pc' := 2) dX12_led_1 (by decide) rfl ?_
  obtain ⟨h1, h⟩ := h
  obtain ⟨G1, hG⟩ : ∃ z, z = zsi G q0 0 0 := ⟨_, rfl⟩
  have h := h _ hG
  refine z_putI (ci := 13) (kf := 0) (pc' := 5) dX12_led_2 kX12_178 (Or.inl rfl) (by decide) (by decide) rfl (Or.inl rfl) rfl h1 (zok_int _) ?_
  refine z_st hG ?_
  refine z_aload_n (pc' := 6) dX12_led_5 rfl rfl ?_
  refine z_aload_n (pc' := 7) dX12_led_6 rfl rfl ?_
  refine z_iload_n (pc' := 8) dX12_led_7 rfl rfl ?_
  obtain ⟨h1, h⟩ := h
  obtain ⟨d1, b1, Qz, hm, hdd, hb, hkx, hk⟩ := h
  refine z_callV (Y := mX12_noAsking) (n := 1) (as := [.int x1]) (st := [.ref q0]) (pc' := 11) (ci := 13) (q := q0) hm dX12_led_8 kX12_431 vX12_noAsking rfl rfl (by decide) rfl h1 hdd hb (Nat.le_of_ble_eq_true rfl) (fun r G3 hz => ?_) hkx
  obtain ⟨y2, rfl, h⟩ := hk r G3 hz
  refine z_iconst (x := 1) (pc' := 12) dX12_led_11 (by decide) rfl ?_
  obtain ⟨h1, h⟩ := h
  obtain ⟨d1, b1, Qz, hm, hdd, hb, hkx, hk⟩ := h
  refine z_callV (Y := mX12_throwsIf) (n := 2) (as := [.int y2, .int 1]) (st := []) (pc' := 15) (ci := 13) (q := q0) hm dX12_led_12 kX12_321 vX12_throwsIf rfl rfl (by decide) rfl h1 hdd hb (Nat.le_of_ble_eq_true rfl) (fun r G6 hz => ?_) hkx
  obtain ⟨y5, rfl, h⟩ := hk r G6 hz
  refine z_if_eq (pt := 20) (pc' := 18) dX12_led_15 (by decide) rfl (fun hc => ?_) (fun hc => ?_)
  · have h := h.1 hc
    refine z_iload_n (pc' := 21) dX12_led_20 rfl rfl ?_
    by_cases hc0 : x2 = 0
    · have h := h.1 hc0
      refine z_tableIn (off := 79) (pt := 100) dX12_led_21 (by rw [hc0]; decide) (by rw [hc0]; decide) (by rw [hc0]; decide) (by decide) ?_
      refine z_aload_n (pc' := 101) dX12_led_100 rfl rfl ?_
      refine z_iload_n (pc' := 102) dX12_led_101 rfl rfl ?_
      refine z_iconst (x := 0) (pc' := 103) dX12_led_102 (by decide) rfl ?_
      obtain ⟨h1, h⟩ := h
      obtain ⟨d1, b1, Qz, hm, hdd, hb, hkx, hk⟩ := h
      refine z_callV (Y := mX12_now) (n := 2) (as := [.int x1, .int 0]) (st := []) (pc' := 106) (ci := 13) (q := q0) hm dX12_led_103 kX12_434 vX12_now rfl rfl (by decide) rfl h1 hdd hb (Nat.le_of_ble_eq_true rfl) (fun r G9 hz => ?_) hkx
      obtain ⟨y8, rfl, h⟩ := hk r G9 hz
      exact z_iret dX12_led_106 rfl h
    have h := h.2
    by_cases hc1 : x2 = 1
    · have h := h.1 hc1
      refine z_tableIn (off := 86) (pt := 107) dX12_led_21 (by rw [hc1]; decide) (by rw [hc1]; decide) (by rw [hc1]; decide) (by decide) ?_
      refine z_aload_n (pc' := 108) dX12_led_107 rfl rfl ?_
      obtain ⟨h1, h⟩ := h
      refine z_getR (ci := 13) (kf := 53) (pc' := 111) dX12_led_108 kX12_112 (Or.inl rfl) (by decide) (by decide) rfl rfl h1 ?_
      refine z_iload_n (pc' := 112) dX12_led_111 rfl rfl ?_
      obtain ⟨h1, h2, h⟩ := h
      refine z_iald (pc' := 113) dX12_led_112 rfl h1 h2 ?_
      exact z_iret dX12_led_113 rfl h
    have h := h.2
    by_cases hc2 : x2 = 2
    · have h := h.1 hc2
      refine z_tableIn (off := 93) (pt := 114) dX12_led_21 (by rw [hc2]; decide) (by rw [hc2]; decide) (by rw [hc2]; decide) (by decide) ?_
      refine z_aload_n (pc' := 115) dX12_led_114 rfl rfl ?_
      obtain ⟨h1, h⟩ := h
      refine z_getR (ci := 13) (kf := 54) (pc' := 118) dX12_led_115 kX12_115 (Or.inl rfl) (by decide) (by decide) rfl rfl h1 ?_
      refine z_iload_n (pc' := 119) dX12_led_118 rfl rfl ?_
      obtain ⟨h1, h2, h⟩ := h
      refine z_iald (pc' := 120) dX12_led_119 rfl h1 h2 ?_
      exact z_iret dX12_led_120 rfl h
    have h := h.2
    by_cases hc3 : x2 = 3
    · have h := h.1 hc3
      refine z_tableIn (off := 100) (pt := 121) dX12_led_21 (by rw [hc3]; decide) (by rw [hc3]; decide) (by rw [hc3]; decide) (by decide) ?_
      refine z_aload_n (pc' := 122) dX12_led_121 rfl rfl ?_
      obtain ⟨h1, h⟩ := h
      refine z_getR (ci := 13) (kf := 55) (pc' := 125) dX12_led_122 kX12_118 (Or.inl rfl) (by decide) (by decide) rfl rfl h1 ?_
      refine z_iload_n (pc' := 126) dX12_led_125 rfl rfl ?_
      obtain ⟨h1, h2, h⟩ := h
      refine z_iald (pc' := 127) dX12_led_126 rfl h1 h2 ?_
      exact z_iret dX12_led_127 rfl h
    have h := h.2
    by_cases hc4 : x2 = 4
    · have h := h.1 hc4
      refine z_tableIn (off := 107) (pt := 128) dX12_led_21 (by rw [hc4]; decide) (by rw [hc4]; decide) (by rw [hc4]; decide) (by decide) ?_
      refine z_aload_n (pc' := 129) dX12_led_128 rfl rfl ?_
      obtain ⟨h1, h⟩ := h
      refine z_getR (ci := 13) (kf := 56) (pc' := 132) dX12_led_129 kX12_121 (Or.inl rfl) (by decide) (by decide) rfl rfl h1 ?_
      refine z_iload_n (pc' := 133) dX12_led_132 rfl rfl ?_
      obtain ⟨h1, h2, h⟩ := h
      refine z_iald (pc' := 134) dX12_led_133 rfl h1 h2 ?_
      exact z_iret dX12_led_134 rfl h
    have h := h.2
    by_cases hc5 : x2 = 5
    · have h := h.1 hc5
      refine z_tableIn (off := 114) (pt := 135) dX12_led_21 (by rw [hc5]; decide) (by rw [hc5]; decide) (by rw [hc5]; decide) (by decide) ?_
      refine z_aload_n (pc' := 136) dX12_led_135 rfl rfl ?_
      obtain ⟨h1, h⟩ := h
      refine z_getR (ci := 13) (kf := 57) (pc' := 139) dX12_led_136 kX12_124 (Or.inl rfl) (by decide) (by decide) rfl rfl h1 ?_
      refine z_iload_n (pc' := 140) dX12_led_139 rfl rfl ?_
      obtain ⟨h1, h2, h⟩ := h
      refine z_iald (pc' := 141) dX12_led_140 rfl h1 h2 ?_
      exact z_iret dX12_led_141 rfl h
    have h := h.2
    by_cases hc6 : x2 = 6
    · have h := h.1 hc6
      refine z_tableIn (off := 121) (pt := 142) dX12_led_21 (by rw [hc6]; decide) (by rw [hc6]; decide) (by rw [hc6]; decide) (by decide) ?_
      refine z_aload_n (pc' := 143) dX12_led_142 rfl rfl ?_
      refine z_iload_n (pc' := 144) dX12_led_143 rfl rfl ?_
      obtain ⟨h1, h⟩ := h
      obtain ⟨d1, b1, Qz, hm, hdd, hb, hkx, hk⟩ := h
      refine z_callV (Y := mX12_lacksOf) (n := 1) (as := [.int x1]) (st := []) (pc' := 147) (ci := 13) (q := q0) hm dX12_led_144 kX12_437 vX12_lacksOf rfl rfl (by decide) rfl h1 hdd hb (Nat.le_of_ble_eq_true rfl) (fun r G12 hz => ?_) hkx
      obtain ⟨y11, rfl, h⟩ := hk r G12 hz
      exact z_iret dX12_led_147 rfl h
    have h := h.2
    by_cases hc7 : x2 = 7
    · have h := h.1 hc7
      refine z_tableIn (off := 127) (pt := 148) dX12_led_21 (by rw [hc7]; decide) (by rw [hc7]; decide) (by rw [hc7]; decide) (by decide) ?_
      refine z_aload_n (pc' := 149) dX12_led_148 rfl rfl ?_
      obtain ⟨h1, h⟩ := h
      refine z_getR (ci := 13) (kf := 60) (pc' := 152) dX12_led_149 kX12_133 (Or.inl rfl) (by decide) (by decide) rfl rfl h1 ?_
      refine z_iload_n (pc' := 153) dX12_led_152 rfl rfl ?_
      obtain ⟨h1, h2, h⟩ := h
      refine z_iald (pc' := 154) dX12_led_153 rfl h1 h2 ?_
      exact z_iret dX12_led_154 rfl h
    have h := h.2
    by_cases hc8 : x2 = 8
    · have h := h.1 hc8
      refine z_tableIn (off := 134) (pt := 155) dX12_led_21 (by rw [hc8]; decide) (by rw [hc8]; decide) (by rw [hc8]; decide) (by decide) ?_
      refine z_aload_n (pc' := 156) dX12_led_155 rfl rfl ?_
      refine z_iload_n (pc' := 157) dX12_led_156 rfl rfl ?_
      refine z_bipush (x := 6) (pc' := 159) dX12_led_157 (by decide) rfl ?_
      obtain ⟨h1, h⟩ := h
      obtain ⟨d1, b1, Qz, hm, hdd, hb, hkx, hk⟩ := h
      refine z_callV (Y := mX12_now) (n := 2) (as := [.int x1, .int 6]) (st := []) (pc' := 162) (ci := 13) (q := q0) hm dX12_led_159 kX12_434 vX12_now rfl rfl (by decide) rfl h1 hdd hb (Nat.le_of_ble_eq_true rfl) (fun r G15 hz => ?_) hkx
      obtain ⟨y14, rfl, h⟩ := hk r G15 hz
      exact z_iret dX12_led_162 rfl h
    have h := h.2
    by_cases hc9 : x2 = 9
    · have h := h.1 hc9
      refine z_tableIn (off := 142) (pt := 163) dX12_led_21 (by rw [hc9]; decide) (by rw [hc9]; decide) (by rw [hc9]; decide) (by decide) ?_
      refine z_aload_n (pc' := 164) dX12_led_163 rfl rfl ?_
      obtain ⟨h1, h⟩ := h
      refine z_getR (ci := 13) (kf := 62) (pc' := 167) dX12_led_164 kX12_139 (Or.inl rfl) (by decide) (by decide) rfl rfl h1 ?_
      refine z_iload_n (pc' := 168) dX12_led_167 rfl rfl ?_
      obtain ⟨h1, h2, h⟩ := h
      refine z_iald (pc' := 169) dX12_led_168 rfl h1 h2 ?_
      exact z_iret dX12_led_169 rfl h
    have h := h.2
    by_cases hc10 : x2 = 10
    · have h := h.1 hc10
      refine z_tableIn (off := 149) (pt := 170) dX12_led_21 (by rw [hc10]; decide) (by rw [hc10]; decide) (by rw [hc10]; decide) (by decide) ?_
      refine z_aload_n (pc' := 171) dX12_led_170 rfl rfl ?_
      obtain ⟨h1, h⟩ := h
      refine z_getR (ci := 13) (kf := 61) (pc' := 174) dX12_led_171 kX12_136 (Or.inl rfl) (by decide) (by decide) rfl rfl h1 ?_
      refine z_iload_n (pc' := 175) dX12_led_174 rfl rfl ?_
      obtain ⟨h1, h2, h⟩ := h
      refine z_iald (pc' := 176) dX12_led_175 rfl h1 h2 ?_
      exact z_iret dX12_led_176 rfl h
    have h := h.2
    by_cases hc11 : x2 = 11
    · have h := h.1 hc11
      refine z_tableIn (off := 156) (pt := 177) dX12_led_21 (by rw [hc11]; decide) (by rw [hc11]; decide) (by rw [hc11]; decide) (by decide) ?_
      refine z_aload_n (pc' := 178) dX12_led_177 rfl rfl ?_
      refine z_iload_n (pc' := 179) dX12_led_178 rfl rfl ?_
      refine z_iconst (x := 1) (pc' := 180) dX12_led_179 (by decide) rfl ?_
      obtain ⟨h1, h⟩ := h
      obtain ⟨d1, b1, Qz, hm, hdd, hb, hkx, hk⟩ := h
      refine z_callV (Y := mX12_now) (n := 2) (as := [.int x1, .int 1]) (st := []) (pc' := 183) (ci := 13) (q := q0) hm dX12_led_180 kX12_434 vX12_now rfl rfl (by decide) rfl h1 hdd hb (Nat.le_of_ble_eq_true rfl) (fun r G18 hz => ?_) hkx
      obtain ⟨y17, rfl, h⟩ := hk r G18 hz
      exact z_iret dX12_led_183 rfl h
    have h := h.2
    by_cases hc12 : x2 = 12
    · have h := h.1 hc12
      refine z_tableIn (off := 163) (pt := 184) dX12_led_21 (by rw [hc12]; decide) (by rw [hc12]; decide) (by rw [hc12]; decide) (by decide) ?_
      refine z_aload_n (pc' := 185) dX12_led_184 rfl rfl ?_
      refine z_iload_n (pc' := 186) dX12_led_185 rfl rfl ?_
      refine z_iconst (x := 2) (pc' := 187) dX12_led_186 (by decide) rfl ?_
      obtain ⟨h1, h⟩ := h
      obtain ⟨d1, b1, Qz, hm, hdd, hb, hkx, hk⟩ := h
      refine z_callV (Y := mX12_now) (n := 2) (as := [.int x1, .int 2]) (st := []) (pc' := 190) (ci := 13) (q := q0) hm dX12_led_187 kX12_434 vX12_now rfl rfl (by decide) rfl h1 hdd hb (Nat.le_of_ble_eq_true rfl) (fun r G21 hz => ?_) hkx
      obtain ⟨y20, rfl, h⟩ := hk r G21 hz
      exact z_iret dX12_led_190 rfl h
    have h := h.2
    by_cases hc13 : x2 = 13
    · have h := h.1 hc13
      refine z_tableIn (off := 170) (pt := 191) dX12_led_21 (by rw [hc13]; decide) (by rw [hc13]; decide) (by rw [hc13]; decide) (by decide) ?_
      refine z_aload_n (pc' := 192) dX12_led_191 rfl rfl ?_
      refine z_iload_n (pc' := 193) dX12_led_192 rfl rfl ?_
      refine z_iconst (x := 3) (pc' := 194) dX12_led_193 (by decide) rfl ?_
      obtain ⟨h1, h⟩ := h
      obtain ⟨d1, b1, Qz, hm, hdd, hb, hkx, hk⟩ := h
      refine z_callV (Y := mX12_now) (n := 2) (as := [.int x1, .int 3]) (st := []) (pc' := 197) (ci := 13) (q := q0) hm dX12_led_194 kX12_434 vX12_now rfl rfl (by decide) rfl h1 hdd hb (Nat.le_of_ble_eq_true rfl) (fun r G24 hz => ?_) hkx
      obtain ⟨y23, rfl, h⟩ := hk r G24 hz
      exact z_iret dX12_led_197 rfl h
    have h := h.2
    by_cases hc14 : x2 = 14
    · have h := h.1 hc14
      refine z_tableIn (off := 177) (pt := 198) dX12_led_21 (by rw [hc14]; decide) (by rw [hc14]; decide) (by rw [hc14]; decide) (by decide) ?_
      refine z_aload_n (pc' := 199) dX12_led_198 rfl rfl ?_
      refine z_iload_n (pc' := 200) dX12_led_199 rfl rfl ?_
      refine z_iconst (x := 4) (pc' := 201) dX12_led_200 (by decide) rfl ?_
      obtain ⟨h1, h⟩ := h
      obtain ⟨d1, b1, Qz, hm, hdd, hb, hkx, hk⟩ := h
      refine z_callV (Y := mX12_now) (n := 2) (as := [.int x1, .int 4]) (st := []) (pc' := 204) (ci := 13) (q := q0) hm dX12_led_201 kX12_434 vX12_now rfl rfl (by decide) rfl h1 hdd hb (Nat.le_of_ble_eq_true rfl) (fun r G27 hz => ?_) hkx
      obtain ⟨y26, rfl, h⟩ := hk r G27 hz
      exact z_iret dX12_led_204 rfl h
    have h := h.2
    by_cases hc15 : x2 = 15
    · have h := h.1 hc15
      refine z_tableIn (off := 184) (pt := 205) dX12_led_21 (by rw [hc15]; decide) (by rw [hc15]; decide) (by rw [hc15]; decide) (by decide) ?_
      refine z_aload_n (pc' := 206) dX12_led_205 rfl rfl ?_
      refine z_iload_n (pc' := 207) dX12_led_206 rfl rfl ?_
      refine z_iconst (x := 5) (pc' := 208) dX12_led_207 (by decide) rfl ?_
      obtain ⟨h1, h⟩ := h
      obtain ⟨d1, b1, Qz, hm, hdd, hb, hkx, hk⟩ := h
      refine z_callV (Y := mX12_now) (n := 2) (as := [.int x1, .int 5]) (st := []) (pc' := 211) (ci := 13) (q := q0) hm dX12_led_208 kX12_434 vX12_now rfl rfl (by decide) rfl h1 hdd hb (Nat.le_of_ble_eq_true rfl) (fun r G30 hz => ?_) hkx
      obtain ⟨y29, rfl, h⟩ := hk r G30 hz
      exact z_iret dX12_led_211 rfl h
    have h := h.2
    have h := h hc0 hc1 hc2 hc3 hc4 hc5 hc6 hc7 hc8 hc9 hc10 hc11 hc12 hc13 hc14 hc15
    refine z_tableOut (pt := 212) dX12_led_21 (by have e0 := lv_neT (a := 0) hc0 (by decide); have e1 := lv_neT (a := 1) hc1 (by decide); have e2 := lv_neT (a := 2) hc2 (by decide); have e3 := lv_neT (a := 3) hc3 (by decide); have e4 := lv_neT (a := 4) hc4 (by decide); have e5 := lv_neT (a := 5) hc5 (by decide); have e6 := lv_neT (a := 6) hc6 (by decide); have e7 := lv_neT (a := 7) hc7 (by decide); have e8 := lv_neT (a := 8) hc8 (by decide); have e9 := lv_neT (a := 9) hc9 (by decide); have e10 := lv_neT (a := 10) hc10 (by decide); have e11 := lv_neT (a := 11) hc11 (by decide); have e12 := lv_neT (a := 12) hc12 (by decide); have e13 := lv_neT (a := 13) hc13 (by decide); have e14 := lv_neT (a := 14) hc14 (by decide); have e15 := lv_neT (a := 15) hc15 (by decide); omega) (by decide) ?_
    refine z_aload_n (pc' := 213) dX12_led_212 rfl rfl ?_
    refine z_iconst (x := 2) (pc' := 214) dX12_led_213 (by decide) rfl ?_
    obtain ⟨h1, h⟩ := h
    obtain ⟨G32, hG⟩ : ∃ z, z = zsi G6 q0 0 2 := ⟨_, rfl⟩
    have h := h _ hG
    refine z_putI (ci := 13) (kf := 0) (pc' := 217) dX12_led_214 kX12_178 (Or.inl rfl) (by decide) (by decide) rfl (Or.inl rfl) rfl h1 (zok_int _) ?_
    refine z_st hG ?_
    refine z_iconst (x := 0) (pc' := 218) dX12_led_217 (by decide) rfl ?_
    exact z_iret dX12_led_218 rfl h
  · have h := h.2 hc
    refine z_iconst (x := 0) (pc' := 19) dX12_led_18 (by decide) rfl ?_
    exact z_iret dX12_led_19 rfl h
def wp_X12_lend_0 (E : ZE) (l : Launch) (d b : Nat) (G0 : ZG) (Q : ZQ) (k : Nat) (q0 : Nat) (x1 : Int32) (x2 : Int32) (x3 : Int32) (x4 : Int32) (x5 : Int32) (G : ZG) : Prop :=
  zob G q0 13 ∧
  ∀ G1, G1 = zsi G q0 0 0 →
  xcI E l mX12_noDesk d [.int x1] G1 k (fun X G9 => Q (.inr X) G9) (fun y2 G3 k4 =>
  zob G3 q0 13 ∧
  xcI E l mX12_throwsIf d [.ref q0, .int y2, .int 1] G3 k4 (fun X G9 => Q (.inr X) G9) (fun y5 G6 k7 =>
  ((¬ y5 = 0 →
    Q (.inl (some (.int 0))) G6) ∧
  (¬ (¬ y5 = 0) →
    xcI E l mX12_in d [.int x2, .int 1, .int 30] G6 k7 (fun X G9 => Q (.inr X) G9) (fun y8 G9 k10 =>
    ((y8 = 0 →
      zW E l mX12_lend d b G0 Q k10 66 [some (.ref q0), some (.int x1), some (.int x2), some (.int x3), some (.int x4), some (.int x5)] [.int 1, .ref q0] G9) ∧
    (¬ (y8 = 0) →
      zob G9 q0 13 ∧
      ((x3 < (ziv G9 q0 1) →
        zW E l mX12_lend d b G0 Q k10 66 [some (.ref q0), some (.int x1), some (.int x2), some (.int x3), some (.int x4), some (.int x5)] [.int 1, .ref q0] G9) ∧
      (¬ (x3 < (ziv G9 q0 1)) →
        ((x4 < x3 →
          zW E l mX12_lend d b G0 Q k10 66 [some (.ref q0), some (.int x1), some (.int x2), some (.int x3), some (.int x4), some (.int x5)] [.int 1, .ref q0] G9) ∧
        (¬ (x4 < x3) →
          ((1000 < x4 →
            zW E l mX12_lend d b G0 Q k10 66 [some (.ref q0), some (.int x1), some (.int x2), some (.int x3), some (.int x4), some (.int x5)] [.int 1, .ref q0] G9) ∧
          (¬ (1000 < x4) →
            xcI E l mX12_in d [.int x5, .int 0, .int 30] G9 k10 (fun X G9 => Q (.inr X) G9) (fun y11 G12 k13 =>
            ((¬ y11 = 0 →
              zW E l mX12_lend d b G0 Q k13 66 [some (.ref q0), some (.int x1), some (.int x2), some (.int x3), some (.int x4), some (.int x5)] [.int 0, .ref q0] G12) ∧
            (¬ (¬ y11 = 0) →
              zW E l mX12_lend d b G0 Q k13 66 [some (.ref q0), some (.int x1), some (.int x2), some (.int x3), some (.int x4), some (.int x5)] [.int 1, .ref q0] G12))))))))))))))))
theorem wpt_X12_lend_0 {E : ZE} {l : Launch} {d b : Nat} {G0 : ZG} {Q : ZQ} {k : Nat} {q0 : Nat} {x1 : Int32} {x2 : Int32} {x3 : Int32} {x4 : Int32} {x5 : Int32} {G : ZG} (h : wp_X12_lend_0 E l d b G0 Q k q0 x1 x2 x3 x4 x5 G) : zW E l mX12_lend d b G0 Q k 0 [some (.ref q0), some (.int x1), some (.int x2), some (.int x3), some (.int x4), some (.int x5)] [] G := by
  unfold wp_X12_lend_0 at h
  refine z_aload_n (pc' := 1) dX12_lend_0 rfl rfl ?_
  refine z_iconst (x := 0) (pc' := 2) dX12_lend_1 (by decide) rfl ?_
  obtain ⟨h1, h⟩ := h
  obtain ⟨G1, hG⟩ : ∃ z, z = zsi G q0 0 0 := ⟨_, rfl⟩
  have h := h _ hG
  refine z_putI (ci := 13) (kf := 0) (pc' := 5) dX12_lend_2 kX12_178 (Or.inl rfl) (by decide) (by decide) rfl (Or.inl rfl) rfl h1 (zok_int _) ?_
  refine z_st hG ?_
  refine z_aload_n (pc' := 6) dX12_lend_5 rfl rfl ?_
  refine z_iload_n (pc' := 7) dX12_lend_6 rfl rfl ?_
  obtain ⟨d1, b1, Qz, hm, hdd, hb, hkx, hk⟩ := h
  refine z_callS (Y := mX12_noDesk) (n := 1) (as := [.int x1]) (st := [.ref q0]) (pc' := 10) hm dX12_lend_7 kX12_394 sX12_noDesk rfl rfl hdd hb (Nat.le_of_ble_eq_true rfl) (fun r G3 hz => ?_) hkx
  obtain ⟨y2, rfl, h⟩ := hk r G3 hz
  refine z_iconst (x := 1) (pc' := 11) dX12_lend_10 (by decide) rfl ?_
  obtain ⟨h1, h⟩ := h
  obtain ⟨d1, b1, Qz, hm, hdd, hb, hkx, hk⟩ := h
  refine z_callV (Y := mX12_throwsIf) (n := 2) (as := [.int y2, .int 1]) (st := []) (pc' := 14) (ci := 13) (q := q0) hm dX12_lend_11 kX12_321 vX12_throwsIf rfl rfl (by decide) rfl h1 hdd hb (Nat.le_of_ble_eq_true rfl) (fun r G6 hz => ?_) hkx
  obtain ⟨y5, rfl, h⟩ := hk r G6 hz
  refine z_if_ne (pt := 73) (pc' := 17) dX12_lend_14 (by decide) rfl (fun hc => ?_) (fun hc => ?_)
  · have h := h.1 hc
    refine z_iconst (x := 0) (pc' := 74) dX12_lend_73 (by decide) rfl ?_
    exact z_iret dX12_lend_74 rfl h
  · have h := h.2 hc
    refine z_aload_n (pc' := 18) dX12_lend_17 rfl rfl ?_
    refine z_iload_n (pc' := 19) dX12_lend_18 rfl rfl ?_
    refine z_iconst (x := 1) (pc' := 20) dX12_lend_19 (by decide) rfl ?_
    refine z_bipush (x := 30) (pc' := 22) dX12_lend_20 (by decide) rfl ?_
    obtain ⟨d1, b1, Qz, hm, hdd, hb, hkx, hk⟩ := h
    refine z_callS (Y := mX12_in) (n := 3) (as := [.int x2, .int 1, .int 30]) (st := [.ref q0]) (pc' := 25) hm dX12_lend_22 kX12_317 sX12_in rfl rfl hdd hb (Nat.le_of_ble_eq_true rfl) (fun r G9 hz => ?_) hkx
    obtain ⟨y8, rfl, h⟩ := hk r G9 hz
    refine z_if_eq (pt := 61) (pc' := 28) dX12_lend_25 (by decide) rfl (fun hc => ?_) (fun hc => ?_)
    · have h := h.1 hc
      refine z_iconst (x := 1) (pc' := 62) dX12_lend_61 (by decide) rfl ?_
      refine z_goto (pc' := 66) dX12_lend_62 (by decide) ?_
      exact z_dr (ls' := [some (.ref q0), some (.int x1), some (.int x2), some (.int x3), some (.int x4), some (.int x5)]) ⟨rfl, rfl, rfl, rfl, rfl, rfl, trivial⟩ h
    · have h := h.2 hc
      refine z_iload_n (pc' := 29) dX12_lend_28 rfl rfl ?_
      refine z_aload_n (pc' := 30) dX12_lend_29 rfl rfl ?_
      obtain ⟨h1, h⟩ := h
      refine z_getI (ci := 13) (kf := 1) (pc' := 33) dX12_lend_30 kX12_314 (Or.inl rfl) (by decide) (by decide) rfl rfl h1 ?_
      refine z_icmp_lt (pt := 61) (pc' := 36) dX12_lend_33 (by decide) rfl (fun hc => ?_) (fun hc => ?_)
      · have h := h.1 hc
        refine z_iconst (x := 1) (pc' := 62) dX12_lend_61 (by decide) rfl ?_
        refine z_goto (pc' := 66) dX12_lend_62 (by decide) ?_
        exact z_dr (ls' := [some (.ref q0), some (.int x1), some (.int x2), some (.int x3), some (.int x4), some (.int x5)]) ⟨rfl, rfl, rfl, rfl, rfl, rfl, trivial⟩ h
      · have h := h.2 hc
        refine z_iload (pc' := 38) dX12_lend_36 rfl rfl ?_
        refine z_iload_n (pc' := 39) dX12_lend_38 rfl rfl ?_
        refine z_icmp_lt (pt := 61) (pc' := 42) dX12_lend_39 (by decide) rfl (fun hc => ?_) (fun hc => ?_)
        · have h := h.1 hc
          refine z_iconst (x := 1) (pc' := 62) dX12_lend_61 (by decide) rfl ?_
          refine z_goto (pc' := 66) dX12_lend_62 (by decide) ?_
          exact z_dr (ls' := [some (.ref q0), some (.int x1), some (.int x2), some (.int x3), some (.int x4), some (.int x5)]) ⟨rfl, rfl, rfl, rfl, rfl, rfl, trivial⟩ h
        · have h := h.2 hc
          refine z_iload (pc' := 44) dX12_lend_42 rfl rfl ?_
          refine z_sipush (x := 1000) (pc' := 47) dX12_lend_44 (by decide) rfl ?_
          refine z_icmp_gt (pt := 61) (pc' := 50) dX12_lend_47 (by decide) rfl (fun hc => ?_) (fun hc => ?_)
          · have h := h.1 hc
            refine z_iconst (x := 1) (pc' := 62) dX12_lend_61 (by decide) rfl ?_
            refine z_goto (pc' := 66) dX12_lend_62 (by decide) ?_
            exact z_dr (ls' := [some (.ref q0), some (.int x1), some (.int x2), some (.int x3), some (.int x4), some (.int x5)]) ⟨rfl, rfl, rfl, rfl, rfl, rfl, trivial⟩ h
          · have h := h.2 hc
            refine z_iload (pc' := 52) dX12_lend_50 rfl rfl ?_
            refine z_iconst (x := 0) (pc' := 53) dX12_lend_52 (by decide) rfl ?_
            refine z_bipush (x := 30) (pc' := 55) dX12_lend_53 (by decide) rfl ?_
            obtain ⟨d1, b1, Qz, hm, hdd, hb, hkx, hk⟩ := h
            refine z_callS (Y := mX12_in) (n := 3) (as := [.int x5, .int 0, .int 30]) (st := [.ref q0]) (pc' := 58) hm dX12_lend_55 kX12_317 sX12_in rfl rfl hdd hb (Nat.le_of_ble_eq_true rfl) (fun r G12 hz => ?_) hkx
            obtain ⟨y11, rfl, h⟩ := hk r G12 hz
            refine z_if_ne (pt := 65) (pc' := 61) dX12_lend_58 (by decide) rfl (fun hc => ?_) (fun hc => ?_)
            · have h := h.1 hc
              refine z_iconst (x := 0) (pc' := 66) dX12_lend_65 (by decide) rfl ?_
              exact z_dr (ls' := [some (.ref q0), some (.int x1), some (.int x2), some (.int x3), some (.int x4), some (.int x5)]) ⟨rfl, rfl, rfl, rfl, rfl, rfl, trivial⟩ h
            · have h := h.2 hc
              refine z_iconst (x := 1) (pc' := 62) dX12_lend_61 (by decide) rfl ?_
              refine z_goto (pc' := 66) dX12_lend_62 (by decide) ?_
              exact z_dr (ls' := [some (.ref q0), some (.int x1), some (.int x2), some (.int x3), some (.int x4), some (.int x5)]) ⟨rfl, rfl, rfl, rfl, rfl, rfl, trivial⟩ h
def wp_X12_lend_66 (E : ZE) (l : Launch) (d b : Nat) (G0 : ZG) (Q : ZQ) (k : Nat) (q0 : Nat) (x1 : Int32) (x2 : Int32) (x3 : Int32) (x4 : Int32) (x5 : Int32) (s0 : Int32) (p1 : Nat) (G : ZG) : Prop :=
  zob G p1 13 ∧
  xcI E l mX12_throwsIf d [.ref p1, .int s0, .int 2] G k (fun X G9 => Q (.inr X) G9) (fun y1 G2 k3 =>
  ((y1 = 0 →
    zob G2 q0 13 ∧
    ((¬ (ziv G2 q0 52) = 20 →
      zob G2 q0 13 ∧
      zob G2 q0 13 ∧
      zar G2 (zrv G2 q0 47) 0 ∧ vp_in (ziv G2 q0 52) (zln G2 (zrv G2 q0 47)) ∧
      ∀ G4, G4 = zsi G2 (zrv G2 q0 47) (ziv G2 q0 52).toNatClampNeg x1 →
      zob G4 q0 13 ∧
      zob G4 q0 13 ∧
      zar G4 (zrv G4 q0 48) 0 ∧ vp_in (ziv G4 q0 52) (zln G4 (zrv G4 q0 48)) ∧
      ∀ G5, G5 = zsi G4 (zrv G4 q0 48) (ziv G4 q0 52).toNatClampNeg x2 →
      zob G5 q0 13 ∧
      zob G5 q0 13 ∧
      zar G5 (zrv G5 q0 49) 0 ∧ vp_in (ziv G5 q0 52) (zln G5 (zrv G5 q0 49)) ∧
      ∀ G6, G6 = zsi G5 (zrv G5 q0 49) (ziv G5 q0 52).toNatClampNeg x3 →
      zob G6 q0 13 ∧
      zob G6 q0 13 ∧
      zar G6 (zrv G6 q0 50) 0 ∧ vp_in (ziv G6 q0 52) (zln G6 (zrv G6 q0 50)) ∧
      ∀ G7, G7 = zsi G6 (zrv G6 q0 50) (ziv G6 q0 52).toNatClampNeg x4 →
      zob G7 q0 13 ∧
      zob G7 q0 13 ∧
      zar G7 (zrv G7 q0 51) 0 ∧ vp_in (ziv G7 q0 52) (zln G7 (zrv G7 q0 51)) ∧
      ∀ G8, G8 = zsi G7 (zrv G7 q0 51) (ziv G7 q0 52).toNatClampNeg x5 →
      zob G8 q0 13 ∧
      zob G8 q0 13 ∧
      ∀ G9, G9 = zsi G8 q0 52 ((ziv G8 q0 52) + 1) →
      zob G9 q0 13 ∧
      Q (.inl (some (.int (ziv G9 q0 52)))) G9) ∧
    (¬ (¬ (ziv G2 q0 52) = 20) →
      Q (.inl (some (.int (-1)))) G2))) ∧
  (¬ (y1 = 0) →
    Q (.inl (some (.int 0))) G2)))
theorem wpt_X12_lend_66 {E : ZE} {l : Launch} {d b : Nat} {G0 : ZG} {Q : ZQ} {k : Nat} {q0 : Nat} {x1 : Int32} {x2 : Int32} {x3 : Int32} {x4 : Int32} {x5 : Int32} {s0 : Int32} {p1 : Nat} {G : ZG} (h : wp_X12_lend_66 E l d b G0 Q k q0 x1 x2 x3 x4 x5 s0 p1 G) : zW E l mX12_lend d b G0 Q k 66 [some (.ref q0), some (.int x1), some (.int x2), some (.int x3), some (.int x4), some (.int x5)] [.int s0, .ref p1] G := by
  unfold wp_X12_lend_66 at h
  refine z_iconst (x := 2) (pc' := 67) dX12_lend_66 (by decide) rfl ?_
  obtain ⟨h1, h⟩ := h
  obtain ⟨d1, b1, Qz, hm, hdd, hb, hkx, hk⟩ := h
  refine z_callV (Y := mX12_throwsIf) (n := 2) (as := [.int s0, .int 2]) (st := []) (pc' := 70) (ci := 13) (q := p1) hm dX12_lend_67 kX12_321 vX12_throwsIf rfl rfl (by decide) rfl h1 hdd hb (Nat.le_of_ble_eq_true rfl) (fun r G2 hz => ?_) hkx
  obtain ⟨y1, rfl, h⟩ := hk r G2 hz
  refine z_if_eq (pt := 75) (pc' := 73) dX12_lend_70 (by decide) rfl (fun hc => ?_) (fun hc => ?_)
  · have h := h.1 hc
    refine z_aload_n (pc' := 76) dX12_lend_75 rfl rfl ?_
    obtain ⟨h1, h⟩ := h
    refine z_getI (ci := 13) (kf := 52) (pc' := 79) dX12_lend_76 kX12_397 (Or.inl rfl) (by decide) (by decide) rfl rfl h1 ?_
    refine z_bipush (x := 20) (pc' := 81) dX12_lend_79 (by decide) rfl ?_
    refine z_icmp_ne (pt := 86) (pc' := 84) dX12_lend_81 (by decide) rfl (fun hc => ?_) (fun hc => ?_)
    · have h := h.1 hc
      refine z_aload_n (pc' := 87) dX12_lend_86 rfl rfl ?_
      obtain ⟨h1, h⟩ := h
      refine z_getR (ci := 13) (kf := 47) (pc' := 90) dX12_lend_87 kX12_97 (Or.inl rfl) (by decide) (by decide) rfl rfl h1 ?_
      refine z_aload_n (pc' := 91) dX12_lend_90 rfl rfl ?_
      obtain ⟨h1, h⟩ := h
      refine z_getI (ci := 13) (kf := 52) (pc' := 94) dX12_lend_91 kX12_397 (Or.inl rfl) (by decide) (by decide) rfl rfl h1 ?_
      refine z_iload_n (pc' := 95) dX12_lend_94 rfl rfl ?_
      obtain ⟨h1, h2, h⟩ := h
      obtain ⟨G4, hG⟩ : ∃ z, z = zsi G2 (zrv G2 q0 47) (ziv G2 q0 52).toNatClampNeg x1 := ⟨_, rfl⟩
      have h := h _ hG
      refine z_iast (pc' := 96) dX12_lend_95 rfl h1 h2  ?_
      refine z_st hG ?_
      refine z_aload_n (pc' := 97) dX12_lend_96 rfl rfl ?_
      obtain ⟨h1, h⟩ := h
      refine z_getR (ci := 13) (kf := 48) (pc' := 100) dX12_lend_97 kX12_100 (Or.inl rfl) (by decide) (by decide) rfl rfl h1 ?_
      refine z_aload_n (pc' := 101) dX12_lend_100 rfl rfl ?_
      obtain ⟨h1, h⟩ := h
      refine z_getI (ci := 13) (kf := 52) (pc' := 104) dX12_lend_101 kX12_397 (Or.inl rfl) (by decide) (by decide) rfl rfl h1 ?_
      refine z_iload_n (pc' := 105) dX12_lend_104 rfl rfl ?_
      obtain ⟨h1, h2, h⟩ := h
      obtain ⟨G5, hG⟩ : ∃ z, z = zsi G4 (zrv G4 q0 48) (ziv G4 q0 52).toNatClampNeg x2 := ⟨_, rfl⟩
      have h := h _ hG
      refine z_iast (pc' := 106) dX12_lend_105 rfl h1 h2  ?_
      refine z_st hG ?_
      refine z_aload_n (pc' := 107) dX12_lend_106 rfl rfl ?_
      obtain ⟨h1, h⟩ := h
      refine z_getR (ci := 13) (kf := 49) (pc' := 110) dX12_lend_107 kX12_103 (Or.inl rfl) (by decide) (by decide) rfl rfl h1 ?_
      refine z_aload_n (pc' := 111) dX12_lend_110 rfl rfl ?_
      obtain ⟨h1, h⟩ := h
      refine z_getI (ci := 13) (kf := 52) (pc' := 114) dX12_lend_111 kX12_397 (Or.inl rfl) (by decide) (by decide) rfl rfl h1 ?_
      refine z_iload_n (pc' := 115) dX12_lend_114 rfl rfl ?_
      obtain ⟨h1, h2, h⟩ := h
      obtain ⟨G6, hG⟩ : ∃ z, z = zsi G5 (zrv G5 q0 49) (ziv G5 q0 52).toNatClampNeg x3 := ⟨_, rfl⟩
      have h := h _ hG
      refine z_iast (pc' := 116) dX12_lend_115 rfl h1 h2  ?_
      refine z_st hG ?_
      refine z_aload_n (pc' := 117) dX12_lend_116 rfl rfl ?_
      obtain ⟨h1, h⟩ := h
      refine z_getR (ci := 13) (kf := 50) (pc' := 120) dX12_lend_117 kX12_106 (Or.inl rfl) (by decide) (by decide) rfl rfl h1 ?_
      refine z_aload_n (pc' := 121) dX12_lend_120 rfl rfl ?_
      obtain ⟨h1, h⟩ := h
      refine z_getI (ci := 13) (kf := 52) (pc' := 124) dX12_lend_121 kX12_397 (Or.inl rfl) (by decide) (by decide) rfl rfl h1 ?_
      refine z_iload (pc' := 126) dX12_lend_124 rfl rfl ?_
      obtain ⟨h1, h2, h⟩ := h
      obtain ⟨G7, hG⟩ : ∃ z, z = zsi G6 (zrv G6 q0 50) (ziv G6 q0 52).toNatClampNeg x4 := ⟨_, rfl⟩
      have h := h _ hG
      refine z_iast (pc' := 127) dX12_lend_126 rfl h1 h2  ?_
      refine z_st hG ?_
      refine z_aload_n (pc' := 128) dX12_lend_127 rfl rfl ?_
      obtain ⟨h1, h⟩ := h
      refine z_getR (ci := 13) (kf := 51) (pc' := 131) dX12_lend_128 kX12_109 (Or.inl rfl) (by decide) (by decide) rfl rfl h1 ?_
      refine z_aload_n (pc' := 132) dX12_lend_131 rfl rfl ?_
      obtain ⟨h1, h⟩ := h
      refine z_getI (ci := 13) (kf := 52) (pc' := 135) dX12_lend_132 kX12_397 (Or.inl rfl) (by decide) (by decide) rfl rfl h1 ?_
      refine z_iload (pc' := 137) dX12_lend_135 rfl rfl ?_
      obtain ⟨h1, h2, h⟩ := h
      obtain ⟨G8, hG⟩ : ∃ z, z = zsi G7 (zrv G7 q0 51) (ziv G7 q0 52).toNatClampNeg x5 := ⟨_, rfl⟩
      have h := h _ hG
      refine z_iast (pc' := 138) dX12_lend_137 rfl h1 h2  ?_
      refine z_st hG ?_
      refine z_aload_n (pc' := 139) dX12_lend_138 rfl rfl ?_
      refine z_dup (pc' := 140) dX12_lend_139 rfl rfl ?_
      obtain ⟨h1, h⟩ := h
      refine z_getI (ci := 13) (kf := 52) (pc' := 143) dX12_lend_140 kX12_397 (Or.inl rfl) (by decide) (by decide) rfl rfl h1 ?_
      refine z_iconst (x := 1) (pc' := 144) dX12_lend_143 (by decide) rfl ?_
      refine z_iadd (pc' := 145) dX12_lend_144 rfl rfl ?_
      obtain ⟨h1, h⟩ := h
      obtain ⟨G9, hG⟩ : ∃ z, z = zsi G8 q0 52 ((ziv G8 q0 52) + 1) := ⟨_, rfl⟩
      have h := h _ hG
      refine z_putI (ci := 13) (kf := 52) (pc' := 148) dX12_lend_145 kX12_397 (Or.inl rfl) (by decide) (by decide) rfl (Or.inl rfl) rfl h1 (zok_int _) ?_
      refine z_st hG ?_
      refine z_aload_n (pc' := 149) dX12_lend_148 rfl rfl ?_
      obtain ⟨h1, h⟩ := h
      refine z_getI (ci := 13) (kf := 52) (pc' := 152) dX12_lend_149 kX12_397 (Or.inl rfl) (by decide) (by decide) rfl rfl h1 ?_
      exact z_iret dX12_lend_152 rfl h
    · have h := h.2 hc
      refine z_iconst (x := (-1)) (pc' := 85) dX12_lend_84 (by decide) rfl ?_
      exact z_iret dX12_lend_85 rfl h
  · have h := h.2 hc
    refine z_iconst (x := 0) (pc' := 74) dX12_lend_73 (by decide) rfl ?_
    exact z_iret dX12_lend_74 rfl h
def wp_X12_lines_0 (E : ZE) (l : Launch) (d b : Nat) (G0 : ZG) (Q : ZQ) (k : Nat) (q0 : Nat) (x1 : Int32) (x2 : Int32) (G : ZG) : Prop :=
  zob G q0 13 ∧
  ∀ G1, G1 = zsi G q0 78 0 →
  zW E l mX12_lines d b G0 Q k 7 [some (.ref q0), some (.int x1), some (.int x2), some (.int 0), none] [] G1
theorem wpt_X12_lines_0 {E : ZE} {l : Launch} {d b : Nat} {G0 : ZG} {Q : ZQ} {k : Nat} {q0 : Nat} {x1 : Int32} {x2 : Int32} {G : ZG} (h : wp_X12_lines_0 E l d b G0 Q k q0 x1 x2 G) : zW E l mX12_lines d b G0 Q k 0 [some (.ref q0), some (.int x1), some (.int x2), none, none] [] G := by
  unfold wp_X12_lines_0 at h
  refine z_aload_n (pc' := 1) dX12_lines_0 rfl rfl ?_
  refine z_iconst (x := 0) (pc' := 2) dX12_lines_1 (by decide) rfl ?_
  obtain ⟨h1, h⟩ := h
  obtain ⟨G1, hG⟩ : ∃ z, z = zsi G q0 78 0 := ⟨_, rfl⟩
  have h := h _ hG
  refine z_putI (ci := 13) (kf := 78) (pc' := 5) dX12_lines_2 kX12_447 (Or.inl rfl) (by decide) (by decide) rfl (Or.inl rfl) rfl h1 (zok_int _) ?_
  refine z_st hG ?_
  refine z_iconst (x := 0) (pc' := 6) dX12_lines_5 (by decide) rfl ?_
  refine z_istore_n (pc' := 7) dX12_lines_6 (by decide) rfl ?_
  exact z_dr (ls' := [some (.ref q0), some (.int x1), some (.int x2), some (.int 0), none]) ⟨rfl, rfl, rfl, rfl, trivial⟩ h
def wp_X12_lines_7 (E : ZE) (l : Launch) (d b : Nat) (G0 : ZG) (Q : ZQ) (k : Nat) (q0 : Nat) (x1 : Int32) (x2 : Int32) (x3 : Int32) (G : ZG) : Prop :=
  zob G q0 13 ∧
  (((ziv G q0 66) ≤ x3 →
    Q (.inl none) G) ∧
  (¬ ((ziv G q0 66) ≤ x3) →
    zob G q0 13 ∧
    xcI E l mX12_now d [.ref q0, .int x3, .int 0] G k (fun X G9 => Q (.inr X) G9) (fun y1 G2 k3 =>
    xcI E l mX12_stateAt d [.int x1] G2 k3 (fun X G9 => Q (.inr X) G9) (fun y4 G5 k6 =>
    ((y1 = y4 →
      zob G5 q0 13 ∧
      zW E l mX12_lines d b G0 Q k6 37 [some (.ref q0), some (.int x1), some (.int x2), some (.int x3), some (.int (ziv G5 q0 78))] [] G5) ∧
    (¬ (y1 = y4) →
      zW E l mX12_lines d b G0 Q k6 7 [some (.ref q0), some (.int x1), some (.int x2), some (.int (x3 + 1)), none] [] G5))))))
theorem wpt_X12_lines_7 {E : ZE} {l : Launch} {d b : Nat} {G0 : ZG} {Q : ZQ} {k : Nat} {q0 : Nat} {x1 : Int32} {x2 : Int32} {x3 : Int32} {G : ZG} (h : wp_X12_lines_7 E l d b G0 Q k q0 x1 x2 x3 G) : zW E l mX12_lines d b G0 Q k 7 [some (.ref q0), some (.int x1), some (.int x2), some (.int x3), none] [] G := by
  unfold wp_X12_lines_7 at h
  refine z_iload_n (pc' := 8) dX12_lines_7 rfl rfl ?_
  refine z_aload_n (pc' := 9) dX12_lines_8 rfl rfl ?_
  obtain ⟨h1, h⟩ := h
  refine z_getI (ci := 13) (kf := 66) (pc' := 12) dX12_lines_9 kX12_412 (Or.inl rfl) (by decide) (by decide) rfl rfl h1 ?_
  refine z_icmp_ge (pt := 106) (pc' := 15) dX12_lines_12 (by decide) rfl (fun hc => ?_) (fun hc => ?_)
  · have h := h.1 hc
    exact z_vret dX12_lines_106 rfl h
  · have h := h.2 hc
    refine z_aload_n (pc' := 16) dX12_lines_15 rfl rfl ?_
    refine z_iload_n (pc' := 17) dX12_lines_16 rfl rfl ?_
    refine z_iconst (x := 0) (pc' := 18) dX12_lines_17 (by decide) rfl ?_
    obtain ⟨h1, h⟩ := h
    obtain ⟨d1, b1, Qz, hm, hdd, hb, hkx, hk⟩ := h
    refine z_callV (Y := mX12_now) (n := 2) (as := [.int x3, .int 0]) (st := []) (pc' := 21) (ci := 13) (q := q0) hm dX12_lines_18 kX12_434 vX12_now rfl rfl (by decide) rfl h1 hdd hb (Nat.le_of_ble_eq_true rfl) (fun r G2 hz => ?_) hkx
    obtain ⟨y1, rfl, h⟩ := hk r G2 hz
    refine z_iload_n (pc' := 22) dX12_lines_21 rfl rfl ?_
    obtain ⟨d1, b1, Qz, hm, hdd, hb, hkx, hk⟩ := h
    refine z_callS (Y := mX12_stateAt) (n := 1) (as := [.int x1]) (st := [.int y1]) (pc' := 25) hm dX12_lines_22 kX12_450 sX12_stateAt rfl rfl hdd hb (Nat.le_of_ble_eq_true rfl) (fun r G5 hz => ?_) hkx
    obtain ⟨y4, rfl, h⟩ := hk r G5 hz
    refine z_icmp_eq (pt := 31) (pc' := 28) dX12_lines_25 (by decide) rfl (fun hc => ?_) (fun hc => ?_)
    · have h := h.1 hc
      refine z_aload_n (pc' := 32) dX12_lines_31 rfl rfl ?_
      obtain ⟨h1, h⟩ := h
      refine z_getI (ci := 13) (kf := 78) (pc' := 35) dX12_lines_32 kX12_447 (Or.inl rfl) (by decide) (by decide) rfl rfl h1 ?_
      refine z_istore (pc' := 37) dX12_lines_35 (by decide) rfl ?_
      exact z_dr (ls' := [some (.ref q0), some (.int x1), some (.int x2), some (.int x3), some (.int (ziv G5 q0 78))]) ⟨rfl, rfl, rfl, rfl, rfl, trivial⟩ h
    · have h := h.2 hc
      refine z_goto (pc' := 100) dX12_lines_28 (by decide) ?_
      refine z_iinc (y := x3 + 1) (pc' := 103) dX12_lines_100 rfl (zinc_1 _) (by decide) rfl ?_
      refine z_goto (pc' := 7) dX12_lines_103 (by decide) ?_
      exact z_dr (ls' := [some (.ref q0), some (.int x1), some (.int x2), some (.int (x3 + 1)), none]) ⟨rfl, rfl, rfl, rfl, trivial⟩ h
def wp_X12_lines_37 (E : ZE) (l : Launch) (d b : Nat) (G0 : ZG) (Q : ZQ) (k : Nat) (q0 : Nat) (x1 : Int32) (x2 : Int32) (x3 : Int32) (x4 : Int32) (G : ZG) : Prop :=
  ((x4 ≤ 0 →
    zob G q0 13 ∧
    zar G (zrv G q0 77) 0 ∧ vp_in x4 (zln G (zrv G q0 77)) ∧
    ∀ G1, G1 = zsi G (zrv G q0 77) x4.toNatClampNeg x3 →
    zob G1 q0 13 ∧
    zob G1 q0 13 ∧
    ∀ G2, G2 = zsi G1 q0 78 ((ziv G1 q0 78) + 1) →
    zW E l mX12_lines d b G0 Q k 7 [some (.ref q0), some (.int x1), some (.int x2), some (.int (x3 + 1)), none] [] G2) ∧
  (¬ (x4 ≤ 0) →
    zob G q0 13 ∧
    (zar G (zrv G q0 77) 0 ∨ zrd G (zrv G q0 77) .int) ∧ vp_in (x4 - 1) (zln G (zrv G q0 77)) ∧
    zob G q0 13 ∧
    xcI E l mX12_isAhead d [.ref q0, .int x3, .int (ziv G (zrv G q0 77) (x4 - 1).toNatClampNeg), .int x2] G k (fun X G9 => Q (.inr X) G9) (fun y3 G4 k5 =>
    ((y3 = 0 →
      zob G4 q0 13 ∧
      zar G4 (zrv G4 q0 77) 0 ∧ vp_in x4 (zln G4 (zrv G4 q0 77)) ∧
      ∀ G6, G6 = zsi G4 (zrv G4 q0 77) x4.toNatClampNeg x3 →
      zob G6 q0 13 ∧
      zob G6 q0 13 ∧
      ∀ G7, G7 = zsi G6 q0 78 ((ziv G6 q0 78) + 1) →
      zW E l mX12_lines d b G0 Q k5 7 [some (.ref q0), some (.int x1), some (.int x2), some (.int (x3 + 1)), none] [] G7) ∧
    (¬ (y3 = 0) →
      zob G4 q0 13 ∧
      zob G4 q0 13 ∧
      (zar G4 (zrv G4 q0 77) 0 ∨ zrd G4 (zrv G4 q0 77) .int) ∧ vp_in (x4 - 1) (zln G4 (zrv G4 q0 77)) ∧
      zar G4 (zrv G4 q0 77) 0 ∧ vp_in x4 (zln G4 (zrv G4 q0 77)) ∧
      ∀ G8, G8 = zsi G4 (zrv G4 q0 77) x4.toNatClampNeg (ziv G4 (zrv G4 q0 77) (x4 - 1).toNatClampNeg) →
      zW E l mX12_lines d b G0 Q k5 37 [some (.ref q0), some (.int x1), some (.int x2), some (.int x3), some (.int (x4 + (-1)))] [] G8)))))
theorem wpt_X12_lines_37 {E : ZE} {l : Launch} {d b : Nat} {G0 : ZG} {Q : ZQ} {k : Nat} {q0 : Nat} {x1 : Int32} {x2 : Int32} {x3 : Int32} {x4 : Int32} {G : ZG} (h : wp_X12_lines_37 E l d b G0 Q k q0 x1 x2 x3 x4 G) : zW E l mX12_lines d b G0 Q k 37 [some (.ref q0), some (.int x1), some (.int x2), some (.int x3), some (.int x4)] [] G := by
  unfold wp_X12_lines_37 at h
  refine z_iload (pc' := 39) dX12_lines_37 rfl rfl ?_
  refine z_if_le (pt := 82) (pc' := 42) dX12_lines_39 (by decide) rfl (fun hc => ?_) (fun hc => ?_)
  · have h := h.1 hc
    refine z_aload_n (pc' := 83) dX12_lines_82 rfl rfl ?_
    obtain ⟨h1, h⟩ := h
    refine z_getR (ci := 13) (kf := 77) (pc' := 86) dX12_lines_83 kX12_163 (Or.inl rfl) (by decide) (by decide) rfl rfl h1 ?_
    refine z_iload (pc' := 88) dX12_lines_86 rfl rfl ?_
    refine z_iload_n (pc' := 89) dX12_lines_88 rfl rfl ?_
    obtain ⟨h1, h2, h⟩ := h
    obtain ⟨G1, hG⟩ : ∃ z, z = zsi G (zrv G q0 77) x4.toNatClampNeg x3 := ⟨_, rfl⟩
    have h := h _ hG
    refine z_iast (pc' := 90) dX12_lines_89 rfl h1 h2  ?_
    refine z_st hG ?_
    refine z_aload_n (pc' := 91) dX12_lines_90 rfl rfl ?_
    refine z_dup (pc' := 92) dX12_lines_91 rfl rfl ?_
    obtain ⟨h1, h⟩ := h
    refine z_getI (ci := 13) (kf := 78) (pc' := 95) dX12_lines_92 kX12_447 (Or.inl rfl) (by decide) (by decide) rfl rfl h1 ?_
    refine z_iconst (x := 1) (pc' := 96) dX12_lines_95 (by decide) rfl ?_
    refine z_iadd (pc' := 97) dX12_lines_96 rfl rfl ?_
    obtain ⟨h1, h⟩ := h
    obtain ⟨G2, hG⟩ : ∃ z, z = zsi G1 q0 78 ((ziv G1 q0 78) + 1) := ⟨_, rfl⟩
    have h := h _ hG
    refine z_putI (ci := 13) (kf := 78) (pc' := 100) dX12_lines_97 kX12_447 (Or.inl rfl) (by decide) (by decide) rfl (Or.inl rfl) rfl h1 (zok_int _) ?_
    refine z_st hG ?_
    refine z_iinc (y := x3 + 1) (pc' := 103) dX12_lines_100 rfl (zinc_1 _) (by decide) rfl ?_
    refine z_goto (pc' := 7) dX12_lines_103 (by decide) ?_
    exact z_dr (ls' := [some (.ref q0), some (.int x1), some (.int x2), some (.int (x3 + 1)), none]) ⟨rfl, rfl, rfl, rfl, trivial⟩ h
  · have h := h.2 hc
    refine z_aload_n (pc' := 43) dX12_lines_42 rfl rfl ?_
    refine z_iload_n (pc' := 44) dX12_lines_43 rfl rfl ?_
    refine z_aload_n (pc' := 45) dX12_lines_44 rfl rfl ?_
    obtain ⟨h1, h⟩ := h
    refine z_getR (ci := 13) (kf := 77) (pc' := 48) dX12_lines_45 kX12_163 (Or.inl rfl) (by decide) (by decide) rfl rfl h1 ?_
    refine z_iload (pc' := 50) dX12_lines_48 rfl rfl ?_
    refine z_iconst (x := 1) (pc' := 51) dX12_lines_50 (by decide) rfl ?_
    refine z_isub (pc' := 52) dX12_lines_51 rfl rfl ?_
    obtain ⟨h1, h2, h⟩ := h
    refine z_iald (pc' := 53) dX12_lines_52 rfl h1 h2 ?_
    refine z_iload_n (pc' := 54) dX12_lines_53 rfl rfl ?_
    obtain ⟨h1, h⟩ := h
    obtain ⟨d1, b1, Qz, hm, hdd, hb, hkx, hk⟩ := h
    refine z_callV (Y := mX12_isAhead) (n := 3) (as := [.int x3, .int (ziv G (zrv G q0 77) (x4 - 1).toNatClampNeg), .int x2]) (st := []) (pc' := 57) (ci := 13) (q := q0) hm dX12_lines_54 kX12_453 vX12_isAhead rfl rfl (by decide) rfl h1 hdd hb (Nat.le_of_ble_eq_true rfl) (fun r G4 hz => ?_) hkx
    obtain ⟨y3, rfl, h⟩ := hk r G4 hz
    refine z_if_eq (pt := 82) (pc' := 60) dX12_lines_57 (by decide) rfl (fun hc => ?_) (fun hc => ?_)
    · have h := h.1 hc
      refine z_aload_n (pc' := 83) dX12_lines_82 rfl rfl ?_
      obtain ⟨h1, h⟩ := h
      refine z_getR (ci := 13) (kf := 77) (pc' := 86) dX12_lines_83 kX12_163 (Or.inl rfl) (by decide) (by decide) rfl rfl h1 ?_
      refine z_iload (pc' := 88) dX12_lines_86 rfl rfl ?_
      refine z_iload_n (pc' := 89) dX12_lines_88 rfl rfl ?_
      obtain ⟨h1, h2, h⟩ := h
      obtain ⟨G6, hG⟩ : ∃ z, z = zsi G4 (zrv G4 q0 77) x4.toNatClampNeg x3 := ⟨_, rfl⟩
      have h := h _ hG
      refine z_iast (pc' := 90) dX12_lines_89 rfl h1 h2  ?_
      refine z_st hG ?_
      refine z_aload_n (pc' := 91) dX12_lines_90 rfl rfl ?_
      refine z_dup (pc' := 92) dX12_lines_91 rfl rfl ?_
      obtain ⟨h1, h⟩ := h
      refine z_getI (ci := 13) (kf := 78) (pc' := 95) dX12_lines_92 kX12_447 (Or.inl rfl) (by decide) (by decide) rfl rfl h1 ?_
      refine z_iconst (x := 1) (pc' := 96) dX12_lines_95 (by decide) rfl ?_
      refine z_iadd (pc' := 97) dX12_lines_96 rfl rfl ?_
      obtain ⟨h1, h⟩ := h
      obtain ⟨G7, hG⟩ : ∃ z, z = zsi G6 q0 78 ((ziv G6 q0 78) + 1) := ⟨_, rfl⟩
      have h := h _ hG
      refine z_putI (ci := 13) (kf := 78) (pc' := 100) dX12_lines_97 kX12_447 (Or.inl rfl) (by decide) (by decide) rfl (Or.inl rfl) rfl h1 (zok_int _) ?_
      refine z_st hG ?_
      refine z_iinc (y := x3 + 1) (pc' := 103) dX12_lines_100 rfl (zinc_1 _) (by decide) rfl ?_
      refine z_goto (pc' := 7) dX12_lines_103 (by decide) ?_
      exact z_dr (ls' := [some (.ref q0), some (.int x1), some (.int x2), some (.int (x3 + 1)), none]) ⟨rfl, rfl, rfl, rfl, trivial⟩ h
    · have h := h.2 hc
      refine z_aload_n (pc' := 61) dX12_lines_60 rfl rfl ?_
      obtain ⟨h1, h⟩ := h
      refine z_getR (ci := 13) (kf := 77) (pc' := 64) dX12_lines_61 kX12_163 (Or.inl rfl) (by decide) (by decide) rfl rfl h1 ?_
      refine z_iload (pc' := 66) dX12_lines_64 rfl rfl ?_
      refine z_aload_n (pc' := 67) dX12_lines_66 rfl rfl ?_
      obtain ⟨h1, h⟩ := h
      refine z_getR (ci := 13) (kf := 77) (pc' := 70) dX12_lines_67 kX12_163 (Or.inl rfl) (by decide) (by decide) rfl rfl h1 ?_
      refine z_iload (pc' := 72) dX12_lines_70 rfl rfl ?_
      refine z_iconst (x := 1) (pc' := 73) dX12_lines_72 (by decide) rfl ?_
      refine z_isub (pc' := 74) dX12_lines_73 rfl rfl ?_
      obtain ⟨h1, h2, h⟩ := h
      refine z_iald (pc' := 75) dX12_lines_74 rfl h1 h2 ?_
      obtain ⟨h1, h2, h⟩ := h
      obtain ⟨G8, hG⟩ : ∃ z, z = zsi G4 (zrv G4 q0 77) x4.toNatClampNeg (ziv G4 (zrv G4 q0 77) (x4 - 1).toNatClampNeg) := ⟨_, rfl⟩
      have h := h _ hG
      refine z_iast (pc' := 76) dX12_lines_75 rfl h1 h2  ?_
      refine z_st hG ?_
      refine z_iinc (y := x4 + (-1)) (pc' := 79) dX12_lines_76 rfl (zinc_m1 _) (by decide) rfl ?_
      refine z_goto (pc' := 37) dX12_lines_79 (by decide) ?_
      exact z_dr (ls' := [some (.ref q0), some (.int x1), some (.int x2), some (.int x3), some (.int (x4 + (-1)))]) ⟨rfl, rfl, rfl, rfl, rfl, trivial⟩ h
def wp_X12_lose_0 (E : ZE) (l : Launch) (d b : Nat) (G0 : ZG) (Q : ZQ) (k : Nat) (q0 : Nat) (x1 : Int32) (G : ZG) : Prop :=
  zob G q0 13 ∧
  ∀ G1, G1 = zsi G q0 0 0 →
  zob G1 q0 13 ∧
  xcI E l mX12_noAsking d [.ref q0, .int x1] G1 k (fun X G9 => Q (.inr X) G9) (fun y2 G3 k4 =>
  zob G3 q0 13 ∧
  xcI E l mX12_throwsIf d [.ref q0, .int y2, .int 1] G3 k4 (fun X G9 => Q (.inr X) G9) (fun y5 G6 k7 =>
  ((¬ y5 = 0 →
    Q (.inl none) G6) ∧
  (¬ (¬ y5 = 0) →
    zob G6 q0 13 ∧
    xcI E l mX12_now d [.ref q0, .int x1, .int 0] G6 k7 (fun X G9 => Q (.inr X) G9) (fun y8 G9 k10 =>
    ((y8 = 6 →
      zW E l mX12_lose d b G0 Q k10 35 [some (.ref q0), some (.int x1), none] [.int 0, .ref q0] G9) ∧
    (¬ (y8 = 6) →
      zW E l mX12_lose d b G0 Q k10 35 [some (.ref q0), some (.int x1), none] [.int 1, .ref q0] G9)))))))
theorem wpt_X12_lose_0 {E : ZE} {l : Launch} {d b : Nat} {G0 : ZG} {Q : ZQ} {k : Nat} {q0 : Nat} {x1 : Int32} {G : ZG} (h : wp_X12_lose_0 E l d b G0 Q k q0 x1 G) : zW E l mX12_lose d b G0 Q k 0 [some (.ref q0), some (.int x1), none] [] G := by
  unfold wp_X12_lose_0 at h
  refine z_aload_n (pc' := 1) dX12_lose_0 rfl rfl ?_
  refine z_iconst (x := 0) (pc' := 2) dX12_lose_1 (by decide) rfl ?_
  obtain ⟨h1, h⟩ := h
  obtain ⟨G1, hG⟩ : ∃ z, z = zsi G q0 0 0 := ⟨_, rfl⟩
  have h := h _ hG
  refine z_putI (ci := 13) (kf := 0) (pc' := 5) dX12_lose_2 kX12_178 (Or.inl rfl) (by decide) (by decide) rfl (Or.inl rfl) rfl h1 (zok_int _) ?_
  refine z_st hG ?_
  refine z_aload_n (pc' := 6) dX12_lose_5 rfl rfl ?_
  refine z_aload_n (pc' := 7) dX12_lose_6 rfl rfl ?_
  refine z_iload_n (pc' := 8) dX12_lose_7 rfl rfl ?_
  obtain ⟨h1, h⟩ := h
  obtain ⟨d1, b1, Qz, hm, hdd, hb, hkx, hk⟩ := h
  refine z_callV (Y := mX12_noAsking) (n := 1) (as := [.int x1]) (st := [.ref q0]) (pc' := 11) (ci := 13) (q := q0) hm dX12_lose_8 kX12_431 vX12_noAsking rfl rfl (by decide) rfl h1 hdd hb (Nat.le_of_ble_eq_true rfl) (fun r G3 hz => ?_) hkx
  obtain ⟨y2, rfl, h⟩ := hk r G3 hz
  refine z_iconst (x := 1) (pc' := 12) dX12_lose_11 (by decide) rfl ?_
  obtain ⟨h1, h⟩ := h
  obtain ⟨d1, b1, Qz, hm, hdd, hb, hkx, hk⟩ := h
  refine z_callV (Y := mX12_throwsIf) (n := 2) (as := [.int y2, .int 1]) (st := []) (pc' := 15) (ci := 13) (q := q0) hm dX12_lose_12 kX12_321 vX12_throwsIf rfl rfl (by decide) rfl h1 hdd hb (Nat.le_of_ble_eq_true rfl) (fun r G6 hz => ?_) hkx
  obtain ⟨y5, rfl, h⟩ := hk r G6 hz
  refine z_if_ne (pt := 42) (pc' := 18) dX12_lose_15 (by decide) rfl (fun hc => ?_) (fun hc => ?_)
  · have h := h.1 hc
    exact z_vret dX12_lose_42 rfl h
  · have h := h.2 hc
    refine z_aload_n (pc' := 19) dX12_lose_18 rfl rfl ?_
    refine z_aload_n (pc' := 20) dX12_lose_19 rfl rfl ?_
    refine z_iload_n (pc' := 21) dX12_lose_20 rfl rfl ?_
    refine z_iconst (x := 0) (pc' := 22) dX12_lose_21 (by decide) rfl ?_
    obtain ⟨h1, h⟩ := h
    obtain ⟨d1, b1, Qz, hm, hdd, hb, hkx, hk⟩ := h
    refine z_callV (Y := mX12_now) (n := 2) (as := [.int x1, .int 0]) (st := [.ref q0]) (pc' := 25) (ci := 13) (q := q0) hm dX12_lose_22 kX12_434 vX12_now rfl rfl (by decide) rfl h1 hdd hb (Nat.le_of_ble_eq_true rfl) (fun r G9 hz => ?_) hkx
    obtain ⟨y8, rfl, h⟩ := hk r G9 hz
    refine z_bipush (x := 6) (pc' := 27) dX12_lose_25 (by decide) rfl ?_
    refine z_icmp_eq (pt := 34) (pc' := 30) dX12_lose_27 (by decide) rfl (fun hc => ?_) (fun hc => ?_)
    · have h := h.1 hc
      refine z_iconst (x := 0) (pc' := 35) dX12_lose_34 (by decide) rfl ?_
      exact z_dr (ls' := [some (.ref q0), some (.int x1), none]) ⟨rfl, rfl, trivial⟩ h
    · have h := h.2 hc
      refine z_iconst (x := 1) (pc' := 31) dX12_lose_30 (by decide) rfl ?_
      refine z_goto (pc' := 35) dX12_lose_31 (by decide) ?_
      exact z_dr (ls' := [some (.ref q0), some (.int x1), none]) ⟨rfl, rfl, trivial⟩ h
def wp_X12_lose_35 (E : ZE) (l : Launch) (d b : Nat) (G0 : ZG) (Q : ZQ) (k : Nat) (q0 : Nat) (x1 : Int32) (s0 : Int32) (p1 : Nat) (G : ZG) : Prop :=
  zob G p1 13 ∧
  xcI E l mX12_throwsIf d [.ref p1, .int s0, .int 2] G k (fun X G9 => Q (.inr X) G9) (fun y1 G2 k3 =>
  ((y1 = 0 →
    zob G2 q0 13 ∧
    xcV E l mX12_sets d [.ref q0, .int x1, .int 0, .int 8] G2 k3 (fun X G9 => Q (.inr X) G9) (fun G4 k5 =>
    zob G4 q0 13 ∧
    xcI E l mX12_now d [.ref q0, .int x1, .int 1] G4 k5 (fun X G9 => Q (.inr X) G9) (fun y6 G7 k8 =>
    zob G7 q0 13 ∧
    zob G7 q0 13 ∧
    (zar G7 (zrv G7 q0 69) 0 ∨ zrd G7 (zrv G7 q0 69) .int) ∧ vp_in y6 (zln G7 (zrv G7 q0 69)) ∧
    zob G7 q0 13 ∧
    xcI E l mJ9_min_7cf53 d [.int (ziv G7 (zrv G7 q0 69) y6.toNatClampNeg), .int (ziv G7 q0 1)] G7 k8 (fun X G9 => Q (.inr X) G9) (fun y9 G10 k11 =>
    zar G10 (zrv G7 q0 69) 0 ∧ vp_in y6 (zln G10 (zrv G7 q0 69)) ∧
    ∀ G12, G12 = zsi G10 (zrv G7 q0 69) y6.toNatClampNeg y9 →
    Q (.inl none) G12)))) ∧
  (¬ (y1 = 0) →
    Q (.inl none) G2)))
theorem wpt_X12_lose_35 {E : ZE} {l : Launch} {d b : Nat} {G0 : ZG} {Q : ZQ} {k : Nat} {q0 : Nat} {x1 : Int32} {s0 : Int32} {p1 : Nat} {G : ZG} (h : wp_X12_lose_35 E l d b G0 Q k q0 x1 s0 p1 G) : zW E l mX12_lose d b G0 Q k 35 [some (.ref q0), some (.int x1), none] [.int s0, .ref p1] G := by
  unfold wp_X12_lose_35 at h
  refine z_iconst (x := 2) (pc' := 36) dX12_lose_35 (by decide) rfl ?_
  obtain ⟨h1, h⟩ := h
  obtain ⟨d1, b1, Qz, hm, hdd, hb, hkx, hk⟩ := h
  refine z_callV (Y := mX12_throwsIf) (n := 2) (as := [.int s0, .int 2]) (st := []) (pc' := 39) (ci := 13) (q := p1) hm dX12_lose_36 kX12_321 vX12_throwsIf rfl rfl (by decide) rfl h1 hdd hb (Nat.le_of_ble_eq_true rfl) (fun r G2 hz => ?_) hkx
  obtain ⟨y1, rfl, h⟩ := hk r G2 hz
  refine z_if_eq (pt := 43) (pc' := 42) dX12_lose_39 (by decide) rfl (fun hc => ?_) (fun hc => ?_)
  · have h := h.1 hc
    refine z_aload_n (pc' := 44) dX12_lose_43 rfl rfl ?_
    refine z_iload_n (pc' := 45) dX12_lose_44 rfl rfl ?_
    refine z_iconst (x := 0) (pc' := 46) dX12_lose_45 (by decide) rfl ?_
    refine z_bipush (x := 8) (pc' := 48) dX12_lose_46 (by decide) rfl ?_
    obtain ⟨h1, h⟩ := h
    obtain ⟨d1, b1, Qz, hm, hdd, hb, hkx, hk⟩ := h
    refine z_callV (Y := mX12_sets) (n := 3) (as := [.int x1, .int 0, .int 8]) (st := []) (pc' := 51) (ci := 13) (q := q0) hm dX12_lose_48 kX12_425 vX12_sets rfl rfl (by decide) rfl h1 hdd hb (Nat.le_of_ble_eq_true rfl) (fun r G4 hz => ?_) hkx
    obtain ⟨rfl, h⟩ := hk r G4 hz
    refine z_aload_n (pc' := 52) dX12_lose_51 rfl rfl ?_
    refine z_iload_n (pc' := 53) dX12_lose_52 rfl rfl ?_
    refine z_iconst (x := 1) (pc' := 54) dX12_lose_53 (by decide) rfl ?_
    obtain ⟨h1, h⟩ := h
    obtain ⟨d1, b1, Qz, hm, hdd, hb, hkx, hk⟩ := h
    refine z_callV (Y := mX12_now) (n := 2) (as := [.int x1, .int 1]) (st := []) (pc' := 57) (ci := 13) (q := q0) hm dX12_lose_54 kX12_434 vX12_now rfl rfl (by decide) rfl h1 hdd hb (Nat.le_of_ble_eq_true rfl) (fun r G7 hz => ?_) hkx
    obtain ⟨y6, rfl, h⟩ := hk r G7 hz
    refine z_istore_n (pc' := 58) dX12_lose_57 (by decide) rfl ?_
    refine z_aload_n (pc' := 59) dX12_lose_58 rfl rfl ?_
    obtain ⟨h1, h⟩ := h
    refine z_getR (ci := 13) (kf := 69) (pc' := 62) dX12_lose_59 kX12_157 (Or.inl rfl) (by decide) (by decide) rfl rfl h1 ?_
    refine z_iload_n (pc' := 63) dX12_lose_62 rfl rfl ?_
    refine z_aload_n (pc' := 64) dX12_lose_63 rfl rfl ?_
    obtain ⟨h1, h⟩ := h
    refine z_getR (ci := 13) (kf := 69) (pc' := 67) dX12_lose_64 kX12_157 (Or.inl rfl) (by decide) (by decide) rfl rfl h1 ?_
    refine z_iload_n (pc' := 68) dX12_lose_67 rfl rfl ?_
    obtain ⟨h1, h2, h⟩ := h
    refine z_iald (pc' := 69) dX12_lose_68 rfl h1 h2 ?_
    refine z_aload_n (pc' := 70) dX12_lose_69 rfl rfl ?_
    obtain ⟨h1, h⟩ := h
    refine z_getI (ci := 13) (kf := 1) (pc' := 73) dX12_lose_70 kX12_314 (Or.inl rfl) (by decide) (by decide) rfl rfl h1 ?_
    obtain ⟨d1, b1, Qz, hm, hdd, hb, hkx, hk⟩ := h
    refine z_callS (Y := mJ9_min_7cf53) (n := 2) (as := [.int (ziv G7 (zrv G7 q0 69) y6.toNatClampNeg), .int (ziv G7 q0 1)]) (st := [.int y6, .ref (zrv G7 q0 69)]) (pc' := 76) hm dX12_lose_73 kX12_369 sJ9_min_7cf53 rfl rfl hdd hb (Nat.le_of_ble_eq_true rfl) (fun r G10 hz => ?_) hkx
    obtain ⟨y9, rfl, h⟩ := hk r G10 hz
    obtain ⟨h1, h2, h⟩ := h
    obtain ⟨G12, hG⟩ : ∃ z, z = zsi G10 (zrv G7 q0 69) y6.toNatClampNeg y9 := ⟨_, rfl⟩
    have h := h _ hG
    refine z_iast (pc' := 77) dX12_lose_76 rfl h1 h2  ?_
    refine z_st hG ?_
    exact z_vret dX12_lose_77 rfl h
  · have h := h.2 hc
    exact z_vret dX12_lose_42 rfl h
