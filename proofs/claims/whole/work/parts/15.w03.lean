/-! what the methods come to -/
def wp_X3_advance_0 (E : ZE) (l : Launch) (d b : Nat) (G0 : ZG) (Q : ZQ) (k : Nat) (q0 : Nat) (G : ZG) : Prop :=
  zob G q0 4 ∧
  (((ziv G q0 2) = (-1) →
    zob G q0 4 ∧
    zob G q0 4 ∧
    ∀ G1, G1 = zsi G q0 7 (ziv G q0 8) →
    zW E l mX3_advance d b G0 Q k 17 [some (.ref q0)] [] G1) ∧
  (¬ ((ziv G q0 2) = (-1)) →
    Q (.inl none) G))
theorem wpt_X3_advance_0 {E : ZE} {l : Launch} {d b : Nat} {G0 : ZG} {Q : ZQ} {k : Nat} {q0 : Nat} {G : ZG} (h : wp_X3_advance_0 E l d b G0 Q k q0 G) : zW E l mX3_advance d b G0 Q k 0 [some (.ref q0)] [] G := by
  unfold wp_X3_advance_0 at h
  refine z_aload_n (pc' := 1) dX3_advance_0 rfl rfl ?_
  obtain ⟨h1, h⟩ := h
  refine z_getI (ci := 4) (kf := 2) (pc' := 4) dX3_advance_1 kX3_15 (Or.inl rfl) (by decide) (by decide) rfl rfl h1 ?_
  refine z_iconst (x := (-1)) (pc' := 5) dX3_advance_4 (by decide) rfl ?_
  refine z_icmp_eq (pt := 9) (pc' := 8) dX3_advance_5 (by decide) rfl (fun hc => ?_) (fun hc => ?_)
  · have h := h.1 hc
    refine z_aload_n (pc' := 10) dX3_advance_9 rfl rfl ?_
    refine z_aload_n (pc' := 11) dX3_advance_10 rfl rfl ?_
    obtain ⟨h1, h⟩ := h
    refine z_getI (ci := 4) (kf := 8) (pc' := 14) dX3_advance_11 kX3_35 (Or.inl rfl) (by decide) (by decide) rfl rfl h1 ?_
    obtain ⟨h1, h⟩ := h
    obtain ⟨G1, hG⟩ : ∃ z, z = zsi G q0 7 (ziv G q0 8) := ⟨_, rfl⟩
    have h := h _ hG
    refine z_putI (ci := 4) (kf := 7) (pc' := 17) dX3_advance_14 kX3_32 (Or.inl rfl) (by decide) (by decide) rfl (Or.inl rfl) rfl h1 (zok_int _) ?_
    refine z_st hG ?_
    exact z_dr (ls' := [some (.ref q0)]) ⟨rfl, trivial⟩ h
  · have h := h.2 hc
    exact z_vret dX3_advance_8 rfl h
def wp_X3_advance_17 (E : ZE) (l : Launch) (d b : Nat) (G0 : ZG) (Q : ZQ) (k : Nat) (q0 : Nat) (G : ZG) : Prop :=
  zob G q0 4 ∧
  zob G q0 4 ∧
  (zar G (zrv G q0 3) 0 ∨ zrd G (zrv G q0 3) .int) ∧
  (((Int32.ofNat (zln G (zrv G q0 3))) ≤ (ziv G q0 7) →
    zW E l mX3_advance d b G0 Q k 56 [some (.ref q0)] [] G) ∧
  (¬ ((Int32.ofNat (zln G (zrv G q0 3))) ≤ (ziv G q0 7)) →
    zob G q0 4 ∧
    zob G q0 4 ∧
    (zar G (zrv G q0 3) 0 ∨ zrd G (zrv G q0 3) .int) ∧ vp_in (ziv G q0 7) (zln G (zrv G q0 3)) ∧
    ((¬ (ziv G (zrv G q0 3) (ziv G q0 7).toNatClampNeg) = 32 →
      zW E l mX3_advance d b G0 Q k 56 [some (.ref q0)] [] G) ∧
    (¬ (¬ (ziv G (zrv G q0 3) (ziv G q0 7).toNatClampNeg) = 32) →
      zob G q0 4 ∧
      zob G q0 4 ∧
      ∀ G1, G1 = zsi G q0 7 ((ziv G q0 7) + 1) →
      zW E l mX3_advance d b G0 Q k 17 [some (.ref q0)] [] G1))))
theorem wpt_X3_advance_17 {E : ZE} {l : Launch} {d b : Nat} {G0 : ZG} {Q : ZQ} {k : Nat} {q0 : Nat} {G : ZG} (h : wp_X3_advance_17 E l d b G0 Q k q0 G) : zW E l mX3_advance d b G0 Q k 17 [some (.ref q0)] [] G := by
  unfold wp_X3_advance_17 at h
  refine z_aload_n (pc' := 18) dX3_advance_17 rfl rfl ?_
  obtain ⟨h1, h⟩ := h
  refine z_getI (ci := 4) (kf := 7) (pc' := 21) dX3_advance_18 kX3_32 (Or.inl rfl) (by decide) (by decide) rfl rfl h1 ?_
  refine z_aload_n (pc' := 22) dX3_advance_21 rfl rfl ?_
  obtain ⟨h1, h⟩ := h
  refine z_getR (ci := 4) (kf := 3) (pc' := 25) dX3_advance_22 kX3_41 (Or.inl rfl) (by decide) (by decide) rfl rfl h1 ?_
  obtain ⟨h1, h⟩ := h
  refine z_alen (pc' := 26) dX3_advance_25 rfl (h1.imp (fun h => ⟨0, by decide, h⟩) (fun h => ⟨_, h⟩)) rfl ?_
  refine z_icmp_ge (pt := 56) (pc' := 29) dX3_advance_26 (by decide) rfl (fun hc => ?_) (fun hc => ?_)
  · have h := h.1 hc
    exact z_dr (ls' := [some (.ref q0)]) ⟨rfl, trivial⟩ h
  · have h := h.2 hc
    refine z_aload_n (pc' := 30) dX3_advance_29 rfl rfl ?_
    obtain ⟨h1, h⟩ := h
    refine z_getR (ci := 4) (kf := 3) (pc' := 33) dX3_advance_30 kX3_41 (Or.inl rfl) (by decide) (by decide) rfl rfl h1 ?_
    refine z_aload_n (pc' := 34) dX3_advance_33 rfl rfl ?_
    obtain ⟨h1, h⟩ := h
    refine z_getI (ci := 4) (kf := 7) (pc' := 37) dX3_advance_34 kX3_32 (Or.inl rfl) (by decide) (by decide) rfl rfl h1 ?_
    obtain ⟨h1, h2, h⟩ := h
    refine z_iald (pc' := 38) dX3_advance_37 rfl h1 h2 ?_
    refine z_bipush (x := 32) (pc' := 40) dX3_advance_38 (by decide) rfl ?_
    refine z_icmp_ne (pt := 56) (pc' := 43) dX3_advance_40 (by decide) rfl (fun hc => ?_) (fun hc => ?_)
    · have h := h.1 hc
      exact z_dr (ls' := [some (.ref q0)]) ⟨rfl, trivial⟩ h
    · have h := h.2 hc
      refine z_aload_n (pc' := 44) dX3_advance_43 rfl rfl ?_
      refine z_dup (pc' := 45) dX3_advance_44 rfl rfl ?_
      obtain ⟨h1, h⟩ := h
      refine z_getI (ci := 4) (kf := 7) (pc' := 48) dX3_advance_45 kX3_32 (Or.inl rfl) (by decide) (by decide) rfl rfl h1 ?_
      refine z_iconst (x := 1) (pc' := 49) dX3_advance_48 (by decide) rfl ?_
      refine z_iadd (pc' := 50) dX3_advance_49 rfl rfl ?_
      obtain ⟨h1, h⟩ := h
      obtain ⟨G1, hG⟩ : ∃ z, z = zsi G q0 7 ((ziv G q0 7) + 1) := ⟨_, rfl⟩
      have h := h _ hG
      refine z_putI (ci := 4) (kf := 7) (pc' := 53) dX3_advance_50 kX3_32 (Or.inl rfl) (by decide) (by decide) rfl (Or.inl rfl) rfl h1 (zok_int _) ?_
      refine z_st hG ?_
      refine z_goto (pc' := 17) dX3_advance_53 (by decide) ?_
      exact z_dr (ls' := [some (.ref q0)]) ⟨rfl, trivial⟩ h
def wp_X3_advance_56 (E : ZE) (l : Launch) (d b : Nat) (G0 : ZG) (Q : ZQ) (k : Nat) (q0 : Nat) (G : ZG) : Prop :=
  zob G q0 4 ∧
  zob G q0 4 ∧
  ∀ G1, G1 = zsi G q0 8 (ziv G q0 7) →
  zob G1 q0 4 ∧
  zob G1 q0 4 ∧
  (zar G1 (zrv G1 q0 3) 0 ∨ zrd G1 (zrv G1 q0 3) .int) ∧
  (((ziv G1 q0 7) < (Int32.ofNat (zln G1 (zrv G1 q0 3))) →
    zob G1 q0 4 ∧
    zob G1 q0 4 ∧
    (zar G1 (zrv G1 q0 3) 0 ∨ zrd G1 (zrv G1 q0 3) .int) ∧ vp_in (ziv G1 q0 7) (zln G1 (zrv G1 q0 3)) ∧
    xcI E l mX3_thingOf d [.int (ziv G1 (zrv G1 q0 3) (ziv G1 q0 7).toNatClampNeg)] G1 k (fun X G9 => Q (.inr X) G9) (fun y2 G3 k4 =>
    zob G3 q0 4 ∧
    ∀ G5, G5 = zsi G3 q0 6 y2 →
    zob G5 q0 4 ∧
    zob G5 q0 4 ∧
    ∀ G6, G6 = zsi G5 q0 8 ((ziv G5 q0 8) + 1) →
    zob G6 q0 4 ∧
    ((¬ (ziv G6 q0 6) = 3 →
      zW E l mX3_advance d b G0 Q k4 117 [some (.ref q0)] [] G6) ∧
    (¬ (¬ (ziv G6 q0 6) = 3) →
      Q (.inl none) G6)))) ∧
  (¬ ((ziv G1 q0 7) < (Int32.ofNat (zln G1 (zrv G1 q0 3)))) →
    zob G1 q0 4 ∧
    ∀ G7, G7 = zsi G1 q0 6 0 →
    Q (.inl none) G7))
theorem wpt_X3_advance_56 {E : ZE} {l : Launch} {d b : Nat} {G0 : ZG} {Q : ZQ} {k : Nat} {q0 : Nat} {G : ZG} (h : wp_X3_advance_56 E l d b G0 Q k q0 G) : zW E l mX3_advance d b G0 Q k 56 [some (.ref q0)] [] G := by
  unfold wp_X3_advance_56 at h
  refine z_aload_n (pc' := 57) dX3_advance_56 rfl rfl ?_
  refine z_aload_n (pc' := 58) dX3_advance_57 rfl rfl ?_
  obtain ⟨h1, h⟩ := h
  refine z_getI (ci := 4) (kf := 7) (pc' := 61) dX3_advance_58 kX3_32 (Or.inl rfl) (by decide) (by decide) rfl rfl h1 ?_
  obtain ⟨h1, h⟩ := h
  obtain ⟨G1, hG⟩ : ∃ z, z = zsi G q0 8 (ziv G q0 7) := ⟨_, rfl⟩
  have h := h _ hG
  refine z_putI (ci := 4) (kf := 8) (pc' := 64) dX3_advance_61 kX3_35 (Or.inl rfl) (by decide) (by decide) rfl (Or.inl rfl) rfl h1 (zok_int _) ?_
  refine z_st hG ?_
  refine z_aload_n (pc' := 65) dX3_advance_64 rfl rfl ?_
  obtain ⟨h1, h⟩ := h
  refine z_getI (ci := 4) (kf := 7) (pc' := 68) dX3_advance_65 kX3_32 (Or.inl rfl) (by decide) (by decide) rfl rfl h1 ?_
  refine z_aload_n (pc' := 69) dX3_advance_68 rfl rfl ?_
  obtain ⟨h1, h⟩ := h
  refine z_getR (ci := 4) (kf := 3) (pc' := 72) dX3_advance_69 kX3_41 (Or.inl rfl) (by decide) (by decide) rfl rfl h1 ?_
  obtain ⟨h1, h⟩ := h
  refine z_alen (pc' := 73) dX3_advance_72 rfl (h1.imp (fun h => ⟨0, by decide, h⟩) (fun h => ⟨_, h⟩)) rfl ?_
  refine z_icmp_lt (pt := 82) (pc' := 76) dX3_advance_73 (by decide) rfl (fun hc => ?_) (fun hc => ?_)
  · have h := h.1 hc
    refine z_aload_n (pc' := 83) dX3_advance_82 rfl rfl ?_
    refine z_aload_n (pc' := 84) dX3_advance_83 rfl rfl ?_
    obtain ⟨h1, h⟩ := h
    refine z_getR (ci := 4) (kf := 3) (pc' := 87) dX3_advance_84 kX3_41 (Or.inl rfl) (by decide) (by decide) rfl rfl h1 ?_
    refine z_aload_n (pc' := 88) dX3_advance_87 rfl rfl ?_
    obtain ⟨h1, h⟩ := h
    refine z_getI (ci := 4) (kf := 7) (pc' := 91) dX3_advance_88 kX3_32 (Or.inl rfl) (by decide) (by decide) rfl rfl h1 ?_
    obtain ⟨h1, h2, h⟩ := h
    refine z_iald (pc' := 92) dX3_advance_91 rfl h1 h2 ?_
    obtain ⟨d1, b1, Qz, hm, hdd, hb, hkx, hk⟩ := h
    refine z_callS (Y := mX3_thingOf) (n := 1) (as := [.int (ziv G1 (zrv G1 q0 3) (ziv G1 q0 7).toNatClampNeg)]) (st := [.ref q0]) (pc' := 95) hm dX3_advance_92 kX3_57 sX3_thingOf rfl rfl hdd hb (Nat.le_of_ble_eq_true rfl) (fun r G3 hz => ?_) hkx
    obtain ⟨y2, rfl, h⟩ := hk r G3 hz
    obtain ⟨h1, h⟩ := h
    obtain ⟨G5, hG⟩ : ∃ z, z = zsi G3 q0 6 y2 := ⟨_, rfl⟩
    have h := h _ hG
    refine z_putI (ci := 4) (kf := 6) (pc' := 98) dX3_advance_95 kX3_29 (Or.inl rfl) (by decide) (by decide) rfl (Or.inl rfl) rfl h1 (zok_int _) ?_
    refine z_st hG ?_
    refine z_aload_n (pc' := 99) dX3_advance_98 rfl rfl ?_
    refine z_dup (pc' := 100) dX3_advance_99 rfl rfl ?_
    obtain ⟨h1, h⟩ := h
    refine z_getI (ci := 4) (kf := 8) (pc' := 103) dX3_advance_100 kX3_35 (Or.inl rfl) (by decide) (by decide) rfl rfl h1 ?_
    refine z_iconst (x := 1) (pc' := 104) dX3_advance_103 (by decide) rfl ?_
    refine z_iadd (pc' := 105) dX3_advance_104 rfl rfl ?_
    obtain ⟨h1, h⟩ := h
    obtain ⟨G6, hG⟩ : ∃ z, z = zsi G5 q0 8 ((ziv G5 q0 8) + 1) := ⟨_, rfl⟩
    have h := h _ hG
    refine z_putI (ci := 4) (kf := 8) (pc' := 108) dX3_advance_105 kX3_35 (Or.inl rfl) (by decide) (by decide) rfl (Or.inl rfl) rfl h1 (zok_int _) ?_
    refine z_st hG ?_
    refine z_aload_n (pc' := 109) dX3_advance_108 rfl rfl ?_
    obtain ⟨h1, h⟩ := h
    refine z_getI (ci := 4) (kf := 6) (pc' := 112) dX3_advance_109 kX3_29 (Or.inl rfl) (by decide) (by decide) rfl rfl h1 ?_
    refine z_iconst (x := 3) (pc' := 113) dX3_advance_112 (by decide) rfl ?_
    refine z_icmp_ne (pt := 117) (pc' := 116) dX3_advance_113 (by decide) rfl (fun hc => ?_) (fun hc => ?_)
    · have h := h.1 hc
      exact z_dr (ls' := [some (.ref q0)]) ⟨rfl, trivial⟩ h
    · have h := h.2 hc
      exact z_vret dX3_advance_116 rfl h
  · have h := h.2 hc
    refine z_aload_n (pc' := 77) dX3_advance_76 rfl rfl ?_
    refine z_iconst (x := 0) (pc' := 78) dX3_advance_77 (by decide) rfl ?_
    obtain ⟨h1, h⟩ := h
    obtain ⟨G7, hG⟩ : ∃ z, z = zsi G1 q0 6 0 := ⟨_, rfl⟩
    have h := h _ hG
    refine z_putI (ci := 4) (kf := 6) (pc' := 81) dX3_advance_78 kX3_29 (Or.inl rfl) (by decide) (by decide) rfl (Or.inl rfl) rfl h1 (zok_int _) ?_
    refine z_st hG ?_
    exact z_vret dX3_advance_81 rfl h
def wp_X3_advance_117 (E : ZE) (l : Launch) (d b : Nat) (G0 : ZG) (Q : ZQ) (k : Nat) (q0 : Nat) (G : ZG) : Prop :=
  zob G q0 4 ∧
  zob G q0 4 ∧
  (zar G (zrv G q0 3) 0 ∨ zrd G (zrv G q0 3) .int) ∧
  (((Int32.ofNat (zln G (zrv G q0 3))) ≤ (ziv G q0 8) →
    Q (.inl none) G) ∧
  (¬ ((Int32.ofNat (zln G (zrv G q0 3))) ≤ (ziv G q0 8)) →
    zob G q0 4 ∧
    zob G q0 4 ∧
    (zar G (zrv G q0 3) 0 ∨ zrd G (zrv G q0 3) .int) ∧ vp_in (ziv G q0 8) (zln G (zrv G q0 3)) ∧
    xcI E l mX3_thingOf d [.int (ziv G (zrv G q0 3) (ziv G q0 8).toNatClampNeg)] G k (fun X G9 => Q (.inr X) G9) (fun y1 G2 k3 =>
    zob G2 q0 4 ∧
    ((¬ y1 = (ziv G2 q0 6) →
      Q (.inl none) G2) ∧
    (¬ (¬ y1 = (ziv G2 q0 6)) →
      zob G2 q0 4 ∧
      zob G2 q0 4 ∧
      ∀ G4, G4 = zsi G2 q0 8 ((ziv G2 q0 8) + 1) →
      zW E l mX3_advance d b G0 Q k3 117 [some (.ref q0)] [] G4)))))
theorem wpt_X3_advance_117 {E : ZE} {l : Launch} {d b : Nat} {G0 : ZG} {Q : ZQ} {k : Nat} {q0 : Nat} {G : ZG} (h : wp_X3_advance_117 E l d b G0 Q k q0 G) : zW E l mX3_advance d b G0 Q k 117 [some (.ref q0)] [] G := by
  unfold wp_X3_advance_117 at h
  refine z_aload_n (pc' := 118) dX3_advance_117 rfl rfl ?_
  obtain ⟨h1, h⟩ := h
  refine z_getI (ci := 4) (kf := 8) (pc' := 121) dX3_advance_118 kX3_35 (Or.inl rfl) (by decide) (by decide) rfl rfl h1 ?_
  refine z_aload_n (pc' := 122) dX3_advance_121 rfl rfl ?_
  obtain ⟨h1, h⟩ := h
  refine z_getR (ci := 4) (kf := 3) (pc' := 125) dX3_advance_122 kX3_41 (Or.inl rfl) (by decide) (by decide) rfl rfl h1 ?_
  obtain ⟨h1, h⟩ := h
  refine z_alen (pc' := 126) dX3_advance_125 rfl (h1.imp (fun h => ⟨0, by decide, h⟩) (fun h => ⟨_, h⟩)) rfl ?_
  refine z_icmp_ge (pt := 161) (pc' := 129) dX3_advance_126 (by decide) rfl (fun hc => ?_) (fun hc => ?_)
  · have h := h.1 hc
    exact z_vret dX3_advance_161 rfl h
  · have h := h.2 hc
    refine z_aload_n (pc' := 130) dX3_advance_129 rfl rfl ?_
    obtain ⟨h1, h⟩ := h
    refine z_getR (ci := 4) (kf := 3) (pc' := 133) dX3_advance_130 kX3_41 (Or.inl rfl) (by decide) (by decide) rfl rfl h1 ?_
    refine z_aload_n (pc' := 134) dX3_advance_133 rfl rfl ?_
    obtain ⟨h1, h⟩ := h
    refine z_getI (ci := 4) (kf := 8) (pc' := 137) dX3_advance_134 kX3_35 (Or.inl rfl) (by decide) (by decide) rfl rfl h1 ?_
    obtain ⟨h1, h2, h⟩ := h
    refine z_iald (pc' := 138) dX3_advance_137 rfl h1 h2 ?_
    obtain ⟨d1, b1, Qz, hm, hdd, hb, hkx, hk⟩ := h
    refine z_callS (Y := mX3_thingOf) (n := 1) (as := [.int (ziv G (zrv G q0 3) (ziv G q0 8).toNatClampNeg)]) (st := []) (pc' := 141) hm dX3_advance_138 kX3_57 sX3_thingOf rfl rfl hdd hb (Nat.le_of_ble_eq_true rfl) (fun r G2 hz => ?_) hkx
    obtain ⟨y1, rfl, h⟩ := hk r G2 hz
    refine z_aload_n (pc' := 142) dX3_advance_141 rfl rfl ?_
    obtain ⟨h1, h⟩ := h
    refine z_getI (ci := 4) (kf := 6) (pc' := 145) dX3_advance_142 kX3_29 (Or.inl rfl) (by decide) (by decide) rfl rfl h1 ?_
    refine z_icmp_ne (pt := 161) (pc' := 148) dX3_advance_145 (by decide) rfl (fun hc => ?_) (fun hc => ?_)
    · have h := h.1 hc
      exact z_vret dX3_advance_161 rfl h
    · have h := h.2 hc
      refine z_aload_n (pc' := 149) dX3_advance_148 rfl rfl ?_
      refine z_dup (pc' := 150) dX3_advance_149 rfl rfl ?_
      obtain ⟨h1, h⟩ := h
      refine z_getI (ci := 4) (kf := 8) (pc' := 153) dX3_advance_150 kX3_35 (Or.inl rfl) (by decide) (by decide) rfl rfl h1 ?_
      refine z_iconst (x := 1) (pc' := 154) dX3_advance_153 (by decide) rfl ?_
      refine z_iadd (pc' := 155) dX3_advance_154 rfl rfl ?_
      obtain ⟨h1, h⟩ := h
      obtain ⟨G4, hG⟩ : ∃ z, z = zsi G2 q0 8 ((ziv G2 q0 8) + 1) := ⟨_, rfl⟩
      have h := h _ hG
      refine z_putI (ci := 4) (kf := 8) (pc' := 158) dX3_advance_155 kX3_35 (Or.inl rfl) (by decide) (by decide) rfl (Or.inl rfl) rfl h1 (zok_int _) ?_
      refine z_st hG ?_
      refine z_goto (pc' := 117) dX3_advance_158 (by decide) ?_
      exact z_dr (ls' := [some (.ref q0)]) ⟨rfl, trivial⟩ h
def wp_X3_fail_0 (E : ZE) (l : Launch) (d b : Nat) (G0 : ZG) (Q : ZQ) (k : Nat) (q0 : Nat) (G : ZG) : Prop :=
  zob G q0 4 ∧
  ((¬ (ziv G q0 2) = (-1) →
    zob G q0 4 ∧
    ∀ G1, G1 = zsi G q0 6 4 →
    Q (.inl none) G1) ∧
  (¬ (¬ (ziv G q0 2) = (-1)) →
    zob G q0 4 ∧
    zob G q0 4 ∧
    ∀ G2, G2 = zsi G q0 2 (ziv G q0 7) →
    zob G2 q0 4 ∧
    ∀ G3, G3 = zsi G2 q0 6 4 →
    Q (.inl none) G3))
theorem wpt_X3_fail_0 {E : ZE} {l : Launch} {d b : Nat} {G0 : ZG} {Q : ZQ} {k : Nat} {q0 : Nat} {G : ZG} (h : wp_X3_fail_0 E l d b G0 Q k q0 G) : zW E l mX3_fail d b G0 Q k 0 [some (.ref q0)] [] G := by
  unfold wp_X3_fail_0 at h
  refine z_aload_n (pc' := 1) dX3_fail_0 rfl rfl ?_
  obtain ⟨h1, h⟩ := h
  refine z_getI (ci := 4) (kf := 2) (pc' := 4) dX3_fail_1 kX3_15 (Or.inl rfl) (by decide) (by decide) rfl rfl h1 ?_
  refine z_iconst (x := (-1)) (pc' := 5) dX3_fail_4 (by decide) rfl ?_
  refine z_icmp_ne (pt := 16) (pc' := 8) dX3_fail_5 (by decide) rfl (fun hc => ?_) (fun hc => ?_)
  · have h := h.1 hc
    refine z_aload_n (pc' := 17) dX3_fail_16 rfl rfl ?_
    refine z_iconst (x := 4) (pc' := 18) dX3_fail_17 (by decide) rfl ?_
    obtain ⟨h1, h⟩ := h
    obtain ⟨G1, hG⟩ : ∃ z, z = zsi G q0 6 4 := ⟨_, rfl⟩
    have h := h _ hG
    refine z_putI (ci := 4) (kf := 6) (pc' := 21) dX3_fail_18 kX3_29 (Or.inl rfl) (by decide) (by decide) rfl (Or.inl rfl) rfl h1 (zok_int _) ?_
    refine z_st hG ?_
    exact z_vret dX3_fail_21 rfl h
  · have h := h.2 hc
    refine z_aload_n (pc' := 9) dX3_fail_8 rfl rfl ?_
    refine z_aload_n (pc' := 10) dX3_fail_9 rfl rfl ?_
    obtain ⟨h1, h⟩ := h
    refine z_getI (ci := 4) (kf := 7) (pc' := 13) dX3_fail_10 kX3_32 (Or.inl rfl) (by decide) (by decide) rfl rfl h1 ?_
    obtain ⟨h1, h⟩ := h
    obtain ⟨G2, hG⟩ : ∃ z, z = zsi G q0 2 (ziv G q0 7) := ⟨_, rfl⟩
    have h := h _ hG
    refine z_putI (ci := 4) (kf := 2) (pc' := 16) dX3_fail_13 kX3_15 (Or.inl rfl) (by decide) (by decide) rfl (Or.inl rfl) rfl h1 (zok_int _) ?_
    refine z_st hG ?_
    refine z_aload_n (pc' := 17) dX3_fail_16 rfl rfl ?_
    refine z_iconst (x := 4) (pc' := 18) dX3_fail_17 (by decide) rfl ?_
    obtain ⟨h1, h⟩ := h
    obtain ⟨G3, hG⟩ : ∃ z, z = zsi G2 q0 6 4 := ⟨_, rfl⟩
    have h := h _ hG
    refine z_putI (ci := 4) (kf := 6) (pc' := 21) dX3_fail_18 kX3_29 (Or.inl rfl) (by decide) (by decide) rfl (Or.inl rfl) rfl h1 (zok_int _) ?_
    refine z_st hG ?_
    exact z_vret dX3_fail_21 rfl h
def wp_X3_init_0 (E : ZE) (l : Launch) (d b : Nat) (G0 : ZG) (Q : ZQ) (k : Nat) (q0 : Nat) (x1 : Int32) (q2 : Nat) (G : ZG) : Prop :=
  zal G q0 ∧ 1 ≤ d ∧
  zob G q0 4 ∧
  ∀ G1, G1 = zsi G q0 1 0 →
  zob G1 q0 4 ∧
  ∀ G2, G2 = zsi G1 q0 2 (-1) →
  ¬ (9 : Int32) < 0 ∧ (9 : Int32).toNatClampNeg ≤ 67108864 ∧ (9 : Int32).toNatClampNeg + 1 ≤ k ∧ ∃ t3, 1024 ≤ t3 ∧ t3 < 3584 ∧ (t3 - 1024) / 512 = 0 ∧
  ∀ q_4, q_4 = zp t3 (zcn G2 t3) → ∀ G5, G5 = znw G2 t3 (9 : Int32).toNatClampNeg → ∀ k6, k6 = k - ((9 : Int32).toNatClampNeg + 1) →
  zob G5 q0 4 ∧
  ∀ G7, G7 = zsr G5 q0 4 q_4 →
  7 ≤ k6 ∧ ∃ t8, t8 ≠ 0 ∧ t8 < 448 ∧ t8 / 32 = 11 ∧
  ∀ q_9, q_9 = zp t8 (zcn G7 t8) → ∀ G10, G10 = znw G7 t8 0 → ∀ k11, k11 = k6 - 7 →
  zal G10 q_9 ∧
  xcV E l mX10_init d [.ref q_9] G10 k11 (fun X G9 => Q (.inr X) G9) (fun G12 k13 =>
  zob G12 q0 4 ∧
  ∀ G14, G14 = zsr G12 q0 5 q_9 →
  zob G14 q0 4 ∧
  ∀ G15, G15 = zsi G14 q0 6 0 →
  zob G15 q0 4 ∧
  ∀ G16, G16 = zsi G15 q0 7 0 →
  zob G16 q0 4 ∧
  ∀ G17, G17 = zsi G16 q0 8 0 →
  zob G17 q0 4 ∧
  ∀ G18, G18 = zsi G17 q0 0 x1 →
  zob G18 q0 4 ∧
  ∀ G19, G19 = zsr G18 q0 3 q2 →
  Q (.inl none) G19)
theorem wpt_X3_init_0 {E : ZE} {l : Launch} {d b : Nat} {G0 : ZG} {Q : ZQ} {k : Nat} {q0 : Nat} {x1 : Int32} {q2 : Nat} {G : ZG} (h : wp_X3_init_0 E l d b G0 Q k q0 x1 q2 G) : zW E l mX3_init d b G0 Q k 0 [some (.ref q0), some (.int x1), some (.ref q2)] [] G := by
  unfold wp_X3_init_0 at h
  refine z_aload_n (pc' := 1) dX3_init_0 rfl rfl ?_
  obtain ⟨h1, h2, h⟩ := h
  refine z_objInit (pc' := 4) dX3_init_1 kX3_3 o_inst o_code rfl h2 h1 (Nat.le_of_ble_eq_true rfl) ?_
  refine z_aload_n (pc' := 5) dX3_init_4 rfl rfl ?_
  refine z_iconst (x := 0) (pc' := 6) dX3_init_5 (by decide) rfl ?_
  obtain ⟨h1, h⟩ := h
  obtain ⟨G1, hG⟩ : ∃ z, z = zsi G q0 1 0 := ⟨_, rfl⟩
  have h := h _ hG
  refine z_putI (ci := 4) (kf := 1) (pc' := 9) dX3_init_6 kX3_9 (Or.inl rfl) (by decide) (by decide) rfl (Or.inl rfl) rfl h1 (zok_int _) ?_
  refine z_st hG ?_
  refine z_aload_n (pc' := 10) dX3_init_9 rfl rfl ?_
  refine z_iconst (x := (-1)) (pc' := 11) dX3_init_10 (by decide) rfl ?_
  obtain ⟨h1, h⟩ := h
  obtain ⟨G2, hG⟩ : ∃ z, z = zsi G1 q0 2 (-1) := ⟨_, rfl⟩
  have h := h _ hG
  refine z_putI (ci := 4) (kf := 2) (pc' := 14) dX3_init_11 kX3_15 (Or.inl rfl) (by decide) (by decide) rfl (Or.inl rfl) rfl h1 (zok_int _) ?_
  refine z_st hG ?_
  refine z_aload_n (pc' := 15) dX3_init_14 rfl rfl ?_
  refine z_bipush (x := 9) (pc' := 17) dX3_init_15 (by decide) rfl ?_
  obtain ⟨h1, h2, h3, t3, h4, h5, h6, h⟩ := h
  obtain ⟨q_4, hq⟩ : ∃ z, z = zp t3 (zcn G2 t3) := ⟨_, rfl⟩
  obtain ⟨G5, hG⟩ : ∃ z, z = znw G2 t3 (9 : Int32).toNatClampNeg := ⟨_, rfl⟩
  have h := h _ hq _ hG _ rfl
  refine z_newa (t := t3) (kd := 0) (pc' := 19) dX3_init_17 rfl (by decide) a_int rfl h4 h5 h6 h1 rfl h2 h3 ?_
  refine z_mk hq hG ?_
  obtain ⟨h1, h⟩ := h
  obtain ⟨G7, hG⟩ : ∃ z, z = zsr G5 q0 4 q_4 := ⟨_, rfl⟩
  have h := h _ hG
  refine z_putR (ci := 4) (kf := 4) (pc' := 22) dX3_init_19 kX3_18 (Or.inl rfl) (by decide) (by decide) rfl (Or.inl rfl) rfl h1 ?_
  refine z_st hG ?_
  refine z_aload_n (pc' := 23) dX3_init_22 rfl rfl ?_
  obtain ⟨h1, t8, h2, h3, h4, h⟩ := h
  obtain ⟨q_9, hq⟩ : ∃ z, z = zp t8 (zcn G7 t8) := ⟨_, rfl⟩
  obtain ⟨G10, hG⟩ : ∃ z, z = znw G7 t8 0 := ⟨_, rfl⟩
  have h := h _ hq _ hG _ rfl
  refine z_new (ci := 11) (t := t8) (pc' := 26) dX3_init_23 kX3_22 n11_inst n11_ini (by decide) rfl h2 h3 h4 h1 (z_df (by decide)) ?_
  refine z_mk hq hG ?_
  refine z_dup (pc' := 27) dX3_init_26 rfl rfl ?_
  obtain ⟨h1, h⟩ := h
  obtain ⟨d1, b1, Qz, hm, hdd, hb, hkx, hk⟩ := h
  refine z_callN (host := RX11) (Y := mX10_init) (n := 0) (as := []) (st := [.ref q_9, .ref q0]) (pc' := 30) (q := q_9) hm dX3_init_27 zne_X3_24 iX10_init rfl rfl h1 hdd hb (Nat.le_of_ble_eq_true rfl) (fun r G12 hz => ?_) hkx
  obtain ⟨rfl, h⟩ := hk r G12 hz
  obtain ⟨h1, h⟩ := h
  obtain ⟨G14, hG⟩ : ∃ z, z = zsr G12 q0 5 q_9 := ⟨_, rfl⟩
  have h := h _ hG
  refine z_putR (ci := 4) (kf := 5) (pc' := 33) dX3_init_30 kX3_25 (Or.inl rfl) (by decide) (by decide) rfl (Or.inl rfl) rfl h1 ?_
  refine z_st hG ?_
  refine z_aload_n (pc' := 34) dX3_init_33 rfl rfl ?_
  refine z_iconst (x := 0) (pc' := 35) dX3_init_34 (by decide) rfl ?_
  obtain ⟨h1, h⟩ := h
  obtain ⟨G15, hG⟩ : ∃ z, z = zsi G14 q0 6 0 := ⟨_, rfl⟩
  have h := h _ hG
  refine z_putI (ci := 4) (kf := 6) (pc' := 38) dX3_init_35 kX3_29 (Or.inl rfl) (by decide) (by decide) rfl (Or.inl rfl) rfl h1 (zok_int _) ?_
  refine z_st hG ?_
  refine z_aload_n (pc' := 39) dX3_init_38 rfl rfl ?_
  refine z_iconst (x := 0) (pc' := 40) dX3_init_39 (by decide) rfl ?_
  obtain ⟨h1, h⟩ := h
  obtain ⟨G16, hG⟩ : ∃ z, z = zsi G15 q0 7 0 := ⟨_, rfl⟩
  have h := h _ hG
  refine z_putI (ci := 4) (kf := 7) (pc' := 43) dX3_init_40 kX3_32 (Or.inl rfl) (by decide) (by decide) rfl (Or.inl rfl) rfl h1 (zok_int _) ?_
  refine z_st hG ?_
  refine z_aload_n (pc' := 44) dX3_init_43 rfl rfl ?_
  refine z_iconst (x := 0) (pc' := 45) dX3_init_44 (by decide) rfl ?_
  obtain ⟨h1, h⟩ := h
  obtain ⟨G17, hG⟩ : ∃ z, z = zsi G16 q0 8 0 := ⟨_, rfl⟩
  have h := h _ hG
  refine z_putI (ci := 4) (kf := 8) (pc' := 48) dX3_init_45 kX3_35 (Or.inl rfl) (by decide) (by decide) rfl (Or.inl rfl) rfl h1 (zok_int _) ?_
  refine z_st hG ?_
  refine z_aload_n (pc' := 49) dX3_init_48 rfl rfl ?_
  refine z_iload_n (pc' := 50) dX3_init_49 rfl rfl ?_
  obtain ⟨h1, h⟩ := h
  obtain ⟨G18, hG⟩ : ∃ z, z = zsi G17 q0 0 x1 := ⟨_, rfl⟩
  have h := h _ hG
  refine z_putI (ci := 4) (kf := 0) (pc' := 53) dX3_init_50 kX3_38 (Or.inl rfl) (by decide) (by decide) rfl (Or.inr ⟨rfl, rfl⟩) rfl h1 (zok_int _) ?_
  refine z_st hG ?_
  refine z_aload_n (pc' := 54) dX3_init_53 rfl rfl ?_
  refine z_aload_n (pc' := 55) dX3_init_54 rfl rfl ?_
  obtain ⟨h1, h⟩ := h
  obtain ⟨G19, hG⟩ : ∃ z, z = zsr G18 q0 3 q2 := ⟨_, rfl⟩
  have h := h _ hG
  refine z_putR (ci := 4) (kf := 3) (pc' := 58) dX3_init_55 kX3_41 (Or.inl rfl) (by decide) (by decide) rfl (Or.inr ⟨rfl, rfl⟩) rfl h1 ?_
  refine z_st hG ?_
  exact z_vret dX3_init_58 rfl h
def wp_X3_isSign_0 (E : ZE) (l : Launch) (d b : Nat) (G0 : ZG) (Q : ZQ) (k : Nat) (q0 : Nat) (x1 : Int32) (G : ZG) : Prop :=
  zob G q0 4 ∧
  ((¬ (ziv G q0 6) = 3 →
    Q (.inl (some (.int 0))) G) ∧
  (¬ (¬ (ziv G q0 6) = 3) →
    zob G q0 4 ∧
    zob G q0 4 ∧
    (zar G (zrv G q0 3) 0 ∨ zrd G (zrv G q0 3) .int) ∧
    (((Int32.ofNat (zln G (zrv G q0 3))) ≤ (ziv G q0 7) →
      Q (.inl (some (.int 0))) G) ∧
    (¬ ((Int32.ofNat (zln G (zrv G q0 3))) ≤ (ziv G q0 7)) →
      zob G q0 4 ∧
      zob G q0 4 ∧
      (zar G (zrv G q0 3) 0 ∨ zrd G (zrv G q0 3) .int) ∧ vp_in (ziv G q0 7) (zln G (zrv G q0 3)) ∧
      ((¬ (ziv G (zrv G q0 3) (ziv G q0 7).toNatClampNeg) = x1 →
        Q (.inl (some (.int 0))) G) ∧
      (¬ (¬ (ziv G (zrv G q0 3) (ziv G q0 7).toNatClampNeg) = x1) →
        Q (.inl (some (.int 1))) G))))))
theorem wpt_X3_isSign_0 {E : ZE} {l : Launch} {d b : Nat} {G0 : ZG} {Q : ZQ} {k : Nat} {q0 : Nat} {x1 : Int32} {G : ZG} (h : wp_X3_isSign_0 E l d b G0 Q k q0 x1 G) : zW E l mX3_isSign d b G0 Q k 0 [some (.ref q0), some (.int x1)] [] G := by
  unfold wp_X3_isSign_0 at h
  refine z_aload_n (pc' := 1) dX3_isSign_0 rfl rfl ?_
  obtain ⟨h1, h⟩ := h
  refine z_getI (ci := 4) (kf := 6) (pc' := 4) dX3_isSign_1 kX3_29 (Or.inl rfl) (by decide) (by decide) rfl rfl h1 ?_
  refine z_iconst (x := 3) (pc' := 5) dX3_isSign_4 (by decide) rfl ?_
  refine z_icmp_ne (pt := 37) (pc' := 8) dX3_isSign_5 (by decide) rfl (fun hc => ?_) (fun hc => ?_)
  · have h := h.1 hc
    refine z_iconst (x := 0) (pc' := 38) dX3_isSign_37 (by decide) rfl ?_
    exact z_zret (ty := .boolean) dX3_isSign_38 rfl (by decide) h
  · have h := h.2 hc
    refine z_aload_n (pc' := 9) dX3_isSign_8 rfl rfl ?_
    obtain ⟨h1, h⟩ := h
    refine z_getI (ci := 4) (kf := 7) (pc' := 12) dX3_isSign_9 kX3_32 (Or.inl rfl) (by decide) (by decide) rfl rfl h1 ?_
    refine z_aload_n (pc' := 13) dX3_isSign_12 rfl rfl ?_
    obtain ⟨h1, h⟩ := h
    refine z_getR (ci := 4) (kf := 3) (pc' := 16) dX3_isSign_13 kX3_41 (Or.inl rfl) (by decide) (by decide) rfl rfl h1 ?_
    obtain ⟨h1, h⟩ := h
    refine z_alen (pc' := 17) dX3_isSign_16 rfl (h1.imp (fun h => ⟨0, by decide, h⟩) (fun h => ⟨_, h⟩)) rfl ?_
    refine z_icmp_ge (pt := 37) (pc' := 20) dX3_isSign_17 (by decide) rfl (fun hc => ?_) (fun hc => ?_)
    · have h := h.1 hc
      refine z_iconst (x := 0) (pc' := 38) dX3_isSign_37 (by decide) rfl ?_
      exact z_zret (ty := .boolean) dX3_isSign_38 rfl (by decide) h
    · have h := h.2 hc
      refine z_aload_n (pc' := 21) dX3_isSign_20 rfl rfl ?_
      obtain ⟨h1, h⟩ := h
      refine z_getR (ci := 4) (kf := 3) (pc' := 24) dX3_isSign_21 kX3_41 (Or.inl rfl) (by decide) (by decide) rfl rfl h1 ?_
      refine z_aload_n (pc' := 25) dX3_isSign_24 rfl rfl ?_
      obtain ⟨h1, h⟩ := h
      refine z_getI (ci := 4) (kf := 7) (pc' := 28) dX3_isSign_25 kX3_32 (Or.inl rfl) (by decide) (by decide) rfl rfl h1 ?_
      obtain ⟨h1, h2, h⟩ := h
      refine z_iald (pc' := 29) dX3_isSign_28 rfl h1 h2 ?_
      refine z_iload_n (pc' := 30) dX3_isSign_29 rfl rfl ?_
      refine z_icmp_ne (pt := 37) (pc' := 33) dX3_isSign_30 (by decide) rfl (fun hc => ?_) (fun hc => ?_)
      · have h := h.1 hc
        refine z_iconst (x := 0) (pc' := 38) dX3_isSign_37 (by decide) rfl ?_
        exact z_zret (ty := .boolean) dX3_isSign_38 rfl (by decide) h
      · have h := h.2 hc
        refine z_iconst (x := 1) (pc' := 34) dX3_isSign_33 (by decide) rfl ?_
        refine z_goto (pc' := 38) dX3_isSign_34 (by decide) ?_
        exact z_zret (ty := .boolean) dX3_isSign_38 rfl (by decide) h
def wp_X3_isWord_0 (E : ZE) (l : Launch) (d b : Nat) (G0 : ZG) (Q : ZQ) (k : Nat) (q0 : Nat) (q1 : Nat) (G : ZG) : Prop :=
  zob G q0 4 ∧
  xcI E l mX3_numberAmong d [.ref q0, .ref q1] G k (fun X G9 => Q (.inr X) G9) (fun y1 G2 k3 =>
  ((¬ y1 = 0 →
    Q (.inl (some (.int 0))) G2) ∧
  (¬ (¬ y1 = 0) →
    Q (.inl (some (.int 1))) G2)))
theorem wpt_X3_isWord_0 {E : ZE} {l : Launch} {d b : Nat} {G0 : ZG} {Q : ZQ} {k : Nat} {q0 : Nat} {q1 : Nat} {G : ZG} (h : wp_X3_isWord_0 E l d b G0 Q k q0 q1 G) : zW E l mX3_isWord d b G0 Q k 0 [some (.ref q0), some (.ref q1)] [] G := by
  unfold wp_X3_isWord_0 at h
  refine z_aload_n (pc' := 1) dX3_isWord_0 rfl rfl ?_
  refine z_aload_n (pc' := 2) dX3_isWord_1 rfl rfl ?_
  obtain ⟨h1, h⟩ := h
  obtain ⟨d1, b1, Qz, hm, hdd, hb, hkx, hk⟩ := h
  refine z_callV (Y := mX3_numberAmong) (n := 1) (as := [.ref q1]) (st := []) (pc' := 5) (ci := 4) (q := q0) hm dX3_isWord_2 kX3_61 vX3_numberAmong rfl rfl (by decide) rfl h1 hdd hb (Nat.le_of_ble_eq_true rfl) (fun r G2 hz => ?_) hkx
  obtain ⟨y1, rfl, h⟩ := hk r G2 hz
  refine z_if_ne (pt := 12) (pc' := 8) dX3_isWord_5 (by decide) rfl (fun hc => ?_) (fun hc => ?_)
  · have h := h.1 hc
    refine z_iconst (x := 0) (pc' := 13) dX3_isWord_12 (by decide) rfl ?_
    exact z_zret (ty := .boolean) dX3_isWord_13 rfl (by decide) h
  · have h := h.2 hc
    refine z_iconst (x := 1) (pc' := 9) dX3_isWord_8 (by decide) rfl ?_
    refine z_goto (pc' := 13) dX3_isWord_9 (by decide) ?_
    exact z_zret (ty := .boolean) dX3_isWord_13 rfl (by decide) h
def wp_X3_numberAmong_0 (E : ZE) (l : Launch) (d b : Nat) (G0 : ZG) (Q : ZQ) (k : Nat) (q0 : Nat) (q1 : Nat) (G : ZG) : Prop :=
  zob G q0 4 ∧
  (((ziv G q0 6) = 1 →
    zob G q0 4 ∧
    zW E l mX3_numberAmong d b G0 Q k 23 [some (.ref q0), some (.ref q1), some (.int 0), some (.int (ziv G q0 7)), some (.int 1), some (.int 0), none] [] G) ∧
  (¬ ((ziv G q0 6) = 1) →
    Q (.inl (some (.int (-1)))) G))
theorem wpt_X3_numberAmong_0 {E : ZE} {l : Launch} {d b : Nat} {G0 : ZG} {Q : ZQ} {k : Nat} {q0 : Nat} {q1 : Nat} {G : ZG} (h : wp_X3_numberAmong_0 E l d b G0 Q k q0 q1 G) : zW E l mX3_numberAmong d b G0 Q k 0 [some (.ref q0), some (.ref q1), none, none, none, none, none] [] G := by
  unfold wp_X3_numberAmong_0 at h
  refine z_aload_n (pc' := 1) dX3_numberAmong_0 rfl rfl ?_
  obtain ⟨h1, h⟩ := h
  refine z_getI (ci := 4) (kf := 6) (pc' := 4) dX3_numberAmong_1 kX3_29 (Or.inl rfl) (by decide) (by decide) rfl rfl h1 ?_
  refine z_iconst (x := 1) (pc' := 5) dX3_numberAmong_4 (by decide) rfl ?_
  refine z_icmp_eq (pt := 10) (pc' := 8) dX3_numberAmong_5 (by decide) rfl (fun hc => ?_) (fun hc => ?_)
  · have h := h.1 hc
    refine z_iconst (x := 0) (pc' := 11) dX3_numberAmong_10 (by decide) rfl ?_
    refine z_istore_n (pc' := 12) dX3_numberAmong_11 (by decide) rfl ?_
    refine z_aload_n (pc' := 13) dX3_numberAmong_12 rfl rfl ?_
    obtain ⟨h1, h⟩ := h
    refine z_getI (ci := 4) (kf := 7) (pc' := 16) dX3_numberAmong_13 kX3_32 (Or.inl rfl) (by decide) (by decide) rfl rfl h1 ?_
    refine z_istore_n (pc' := 17) dX3_numberAmong_16 (by decide) rfl ?_
    refine z_iconst (x := 1) (pc' := 18) dX3_numberAmong_17 (by decide) rfl ?_
    refine z_istore (pc' := 20) dX3_numberAmong_18 (by decide) rfl ?_
    refine z_iconst (x := 0) (pc' := 21) dX3_numberAmong_20 (by decide) rfl ?_
    refine z_istore (pc' := 23) dX3_numberAmong_21 (by decide) rfl ?_
    exact z_dr (ls' := [some (.ref q0), some (.ref q1), some (.int 0), some (.int (ziv G q0 7)), some (.int 1), some (.int 0), none]) ⟨rfl, rfl, rfl, rfl, rfl, rfl, trivial⟩ h
  · have h := h.2 hc
    refine z_iconst (x := (-1)) (pc' := 9) dX3_numberAmong_8 (by decide) rfl ?_
    exact z_iret dX3_numberAmong_9 rfl h
def wp_X3_numberAmong_23 (E : ZE) (l : Launch) (d b : Nat) (G0 : ZG) (Q : ZQ) (k : Nat) (q0 : Nat) (q1 : Nat) (x2 : Int32) (x3 : Int32) (x4 : Int32) (x5 : Int32) (G : ZG) : Prop :=
  ∃ n1, n1 < 32 ∧ q1 = zp 1000 n1 ∧ zstr G n1 ∧ 4 ≤ d ∧
  (((Int32.ofNat (zstl n1)) ≤ x5 →
    ((x4 = 0 →
      Q (.inl (some (.int (-1)))) G) ∧
    (¬ (x4 = 0) →
      zob G q0 4 ∧
      ((¬ x3 = (ziv G q0 8) →
        Q (.inl (some (.int (-1)))) G) ∧
      (¬ (¬ x3 = (ziv G q0 8)) →
        Q (.inl (some (.int x2))) G))))) ∧
  (¬ ((Int32.ofNat (zstl n1)) ≤ x5) →
    ∃ n2, n2 < 32 ∧ q1 = zp 1000 n2 ∧ zstr G n2 ∧ 6 ≤ d ∧ vp_in x5 (zstl n2) ∧
    ((¬ (zstc n2 x5.toNatClampNeg) = 32 →
      ((x4 = 0 →
        zW E l mX3_numberAmong d b G0 Q k 23 [some (.ref q0), some (.ref q1), some (.int x2), some (.int (x3 + 1)), some (.int 0), some (.int (x5 + 1)), none] [] G) ∧
      (¬ (x4 = 0) →
        zob G q0 4 ∧
        (((ziv G q0 8) ≤ x3 →
          zW E l mX3_numberAmong d b G0 Q k 23 [some (.ref q0), some (.ref q1), some (.int x2), some (.int (x3 + 1)), some (.int 0), some (.int (x5 + 1)), none] [] G) ∧
        (¬ ((ziv G q0 8) ≤ x3) →
          zob G q0 4 ∧
          (zar G (zrv G q0 3) 0 ∨ zrd G (zrv G q0 3) .int) ∧
          (((Int32.ofNat (zln G (zrv G q0 3))) ≤ x3 →
            zW E l mX3_numberAmong d b G0 Q k 23 [some (.ref q0), some (.ref q1), some (.int x2), some (.int (x3 + 1)), some (.int 0), some (.int (x5 + 1)), none] [] G) ∧
          (¬ ((Int32.ofNat (zln G (zrv G q0 3))) ≤ x3) →
            zob G q0 4 ∧
            (zar G (zrv G q0 3) 0 ∨ zrd G (zrv G q0 3) .int) ∧ vp_in x3 (zln G (zrv G q0 3)) ∧
            ((¬ (ziv G (zrv G q0 3) x3.toNatClampNeg) = (zstc n2 x5.toNatClampNeg) →
              zW E l mX3_numberAmong d b G0 Q k 23 [some (.ref q0), some (.ref q1), some (.int x2), some (.int (x3 + 1)), some (.int 0), some (.int (x5 + 1)), none] [] G) ∧
            (¬ (¬ (ziv G (zrv G q0 3) x3.toNatClampNeg) = (zstc n2 x5.toNatClampNeg)) →
              zW E l mX3_numberAmong d b G0 Q k 23 [some (.ref q0), some (.ref q1), some (.int x2), some (.int (x3 + 1)), some (.int 1), some (.int (x5 + 1)), none] [] G))))))))) ∧
    (¬ (¬ (zstc n2 x5.toNatClampNeg) = 32) →
      ((x4 = 0 →
        zob G q0 4 ∧
        zW E l mX3_numberAmong d b G0 Q k 23 [some (.ref q0), some (.ref q1), some (.int (x2 + 1)), some (.int (ziv G q0 7)), some (.int 1), some (.int (x5 + 1)), none] [] G) ∧
      (¬ (x4 = 0) →
        zob G q0 4 ∧
        ((¬ x3 = (ziv G q0 8) →
          zob G q0 4 ∧
          zW E l mX3_numberAmong d b G0 Q k 23 [some (.ref q0), some (.ref q1), some (.int (x2 + 1)), some (.int (ziv G q0 7)), some (.int 1), some (.int (x5 + 1)), none] [] G) ∧
        (¬ (¬ x3 = (ziv G q0 8)) →
          Q (.inl (some (.int x2))) G))))))))
theorem wpt_X3_numberAmong_23 {E : ZE} {l : Launch} {d b : Nat} {G0 : ZG} {Q : ZQ} {k : Nat} {q0 : Nat} {q1 : Nat} {x2 : Int32} {x3 : Int32} {x4 : Int32} {x5 : Int32} {G : ZG} (h : wp_X3_numberAmong_23 E l d b G0 Q k q0 q1 x2 x3 x4 x5 G) : zW E l mX3_numberAmong d b G0 Q k 23 [some (.ref q0), some (.ref q1), some (.int x2), some (.int x3), some (.int x4), some (.int x5), none] [] G := by
  unfold wp_X3_numberAmong_23 at h
  refine z_iload (pc' := 25) dX3_numberAmong_23 rfl rfl ?_
  refine z_aload_n (pc' := 26) dX3_numberAmong_25 rfl rfl ?_
  obtain ⟨n1, h1, h2, h2b, h3, h⟩ := h
  refine z_strlen (n := n1) (st := [.int x5]) (pc' := 29) dX3_numberAmong_26 kX3_65 rfl h1 h2 h2b h3 (Nat.le_of_ble_eq_true rfl) ?_
  refine z_icmp_ge (pt := 125) (pc' := 32) dX3_numberAmong_29 (by decide) rfl (fun hc => ?_) (fun hc => ?_)
  · have h := h.1 hc
    refine z_iload (pc' := 127) dX3_numberAmong_125 rfl rfl ?_
    refine z_if_eq (pt := 142) (pc' := 130) dX3_numberAmong_127 (by decide) rfl (fun hc => ?_) (fun hc => ?_)
    · have h := h.1 hc
      refine z_iconst (x := (-1)) (pc' := 143) dX3_numberAmong_142 (by decide) rfl ?_
      exact z_iret dX3_numberAmong_143 rfl h
    · have h := h.2 hc
      refine z_iload_n (pc' := 131) dX3_numberAmong_130 rfl rfl ?_
      refine z_aload_n (pc' := 132) dX3_numberAmong_131 rfl rfl ?_
      obtain ⟨h1, h⟩ := h
      refine z_getI (ci := 4) (kf := 8) (pc' := 135) dX3_numberAmong_132 kX3_35 (Or.inl rfl) (by decide) (by decide) rfl rfl h1 ?_
      refine z_icmp_ne (pt := 142) (pc' := 138) dX3_numberAmong_135 (by decide) rfl (fun hc => ?_) (fun hc => ?_)
      · have h := h.1 hc
        refine z_iconst (x := (-1)) (pc' := 143) dX3_numberAmong_142 (by decide) rfl ?_
        exact z_iret dX3_numberAmong_143 rfl h
      · have h := h.2 hc
        refine z_iload_n (pc' := 139) dX3_numberAmong_138 rfl rfl ?_
        refine z_goto (pc' := 143) dX3_numberAmong_139 (by decide) ?_
        exact z_iret dX3_numberAmong_143 rfl h
  · have h := h.2 hc
    refine z_aload_n (pc' := 33) dX3_numberAmong_32 rfl rfl ?_
    refine z_iload (pc' := 35) dX3_numberAmong_33 rfl rfl ?_
    obtain ⟨n2, h1, h2, h2b, h3, h4, h⟩ := h
    refine z_strat (n := n2) (st := []) (pc' := 38) dX3_numberAmong_35 kX3_71 rfl h1 h2 h2b h3 h4 (Nat.le_of_ble_eq_true rfl) ?_
    refine z_istore (pc' := 40) dX3_numberAmong_38 (by decide) rfl ?_
    refine z_iload (pc' := 42) dX3_numberAmong_40 rfl rfl ?_
    refine z_bipush (x := 32) (pc' := 44) dX3_numberAmong_42 (by decide) rfl ?_
    refine z_icmp_ne (pt := 76) (pc' := 47) dX3_numberAmong_44 (by decide) rfl (fun hc => ?_) (fun hc => ?_)
    · have h := h.1 hc
      refine z_iload (pc' := 78) dX3_numberAmong_76 rfl rfl ?_
      refine z_if_eq (pt := 113) (pc' := 81) dX3_numberAmong_78 (by decide) rfl (fun hc => ?_) (fun hc => ?_)
      · have h := h.1 hc
        refine z_iconst (x := 0) (pc' := 114) dX3_numberAmong_113 (by decide) rfl ?_
        refine z_istore (pc' := 116) dX3_numberAmong_114 (by decide) rfl ?_
        refine z_iinc (y := x3 + 1) (pc' := 119) dX3_numberAmong_116 rfl (zinc_1 _) (by decide) rfl ?_
        refine z_iinc (y := x5 + 1) (pc' := 122) dX3_numberAmong_119 rfl (zinc_1 _) (by decide) rfl ?_
        refine z_goto (pc' := 23) dX3_numberAmong_122 (by decide) ?_
        exact z_dr (ls' := [some (.ref q0), some (.ref q1), some (.int x2), some (.int (x3 + 1)), some (.int 0), some (.int (x5 + 1)), none]) ⟨rfl, rfl, rfl, rfl, rfl, rfl, trivial⟩ h
      · have h := h.2 hc
        refine z_iload_n (pc' := 82) dX3_numberAmong_81 rfl rfl ?_
        refine z_aload_n (pc' := 83) dX3_numberAmong_82 rfl rfl ?_
        obtain ⟨h1, h⟩ := h
        refine z_getI (ci := 4) (kf := 8) (pc' := 86) dX3_numberAmong_83 kX3_35 (Or.inl rfl) (by decide) (by decide) rfl rfl h1 ?_
        refine z_icmp_ge (pt := 113) (pc' := 89) dX3_numberAmong_86 (by decide) rfl (fun hc => ?_) (fun hc => ?_)
        · have h := h.1 hc
          refine z_iconst (x := 0) (pc' := 114) dX3_numberAmong_113 (by decide) rfl ?_
          refine z_istore (pc' := 116) dX3_numberAmong_114 (by decide) rfl ?_
          refine z_iinc (y := x3 + 1) (pc' := 119) dX3_numberAmong_116 rfl (zinc_1 _) (by decide) rfl ?_
          refine z_iinc (y := x5 + 1) (pc' := 122) dX3_numberAmong_119 rfl (zinc_1 _) (by decide) rfl ?_
          refine z_goto (pc' := 23) dX3_numberAmong_122 (by decide) ?_
          exact z_dr (ls' := [some (.ref q0), some (.ref q1), some (.int x2), some (.int (x3 + 1)), some (.int 0), some (.int (x5 + 1)), none]) ⟨rfl, rfl, rfl, rfl, rfl, rfl, trivial⟩ h
        · have h := h.2 hc
          refine z_iload_n (pc' := 90) dX3_numberAmong_89 rfl rfl ?_
          refine z_aload_n (pc' := 91) dX3_numberAmong_90 rfl rfl ?_
          obtain ⟨h1, h⟩ := h
          refine z_getR (ci := 4) (kf := 3) (pc' := 94) dX3_numberAmong_91 kX3_41 (Or.inl rfl) (by decide) (by decide) rfl rfl h1 ?_
          obtain ⟨h1, h⟩ := h
          refine z_alen (pc' := 95) dX3_numberAmong_94 rfl (h1.imp (fun h => ⟨0, by decide, h⟩) (fun h => ⟨_, h⟩)) rfl ?_
          refine z_icmp_ge (pt := 113) (pc' := 98) dX3_numberAmong_95 (by decide) rfl (fun hc => ?_) (fun hc => ?_)
          · have h := h.1 hc
            refine z_iconst (x := 0) (pc' := 114) dX3_numberAmong_113 (by decide) rfl ?_
            refine z_istore (pc' := 116) dX3_numberAmong_114 (by decide) rfl ?_
            refine z_iinc (y := x3 + 1) (pc' := 119) dX3_numberAmong_116 rfl (zinc_1 _) (by decide) rfl ?_
            refine z_iinc (y := x5 + 1) (pc' := 122) dX3_numberAmong_119 rfl (zinc_1 _) (by decide) rfl ?_
            refine z_goto (pc' := 23) dX3_numberAmong_122 (by decide) ?_
            exact z_dr (ls' := [some (.ref q0), some (.ref q1), some (.int x2), some (.int (x3 + 1)), some (.int 0), some (.int (x5 + 1)), none]) ⟨rfl, rfl, rfl, rfl, rfl, rfl, trivial⟩ h
          · have h := h.2 hc
            refine z_aload_n (pc' := 99) dX3_numberAmong_98 rfl rfl ?_
            obtain ⟨h1, h⟩ := h
            refine z_getR (ci := 4) (kf := 3) (pc' := 102) dX3_numberAmong_99 kX3_41 (Or.inl rfl) (by decide) (by decide) rfl rfl h1 ?_
            refine z_iload_n (pc' := 103) dX3_numberAmong_102 rfl rfl ?_
            obtain ⟨h1, h2, h⟩ := h
            refine z_iald (pc' := 104) dX3_numberAmong_103 rfl h1 h2 ?_
            refine z_iload (pc' := 106) dX3_numberAmong_104 rfl rfl ?_
            refine z_icmp_ne (pt := 113) (pc' := 109) dX3_numberAmong_106 (by decide) rfl (fun hc => ?_) (fun hc => ?_)
            · have h := h.1 hc
              refine z_iconst (x := 0) (pc' := 114) dX3_numberAmong_113 (by decide) rfl ?_
              refine z_istore (pc' := 116) dX3_numberAmong_114 (by decide) rfl ?_
              refine z_iinc (y := x3 + 1) (pc' := 119) dX3_numberAmong_116 rfl (zinc_1 _) (by decide) rfl ?_
              refine z_iinc (y := x5 + 1) (pc' := 122) dX3_numberAmong_119 rfl (zinc_1 _) (by decide) rfl ?_
              refine z_goto (pc' := 23) dX3_numberAmong_122 (by decide) ?_
              exact z_dr (ls' := [some (.ref q0), some (.ref q1), some (.int x2), some (.int (x3 + 1)), some (.int 0), some (.int (x5 + 1)), none]) ⟨rfl, rfl, rfl, rfl, rfl, rfl, trivial⟩ h
            · have h := h.2 hc
              refine z_iconst (x := 1) (pc' := 110) dX3_numberAmong_109 (by decide) rfl ?_
              refine z_goto (pc' := 114) dX3_numberAmong_110 (by decide) ?_
              refine z_istore (pc' := 116) dX3_numberAmong_114 (by decide) rfl ?_
              refine z_iinc (y := x3 + 1) (pc' := 119) dX3_numberAmong_116 rfl (zinc_1 _) (by decide) rfl ?_
              refine z_iinc (y := x5 + 1) (pc' := 122) dX3_numberAmong_119 rfl (zinc_1 _) (by decide) rfl ?_
              refine z_goto (pc' := 23) dX3_numberAmong_122 (by decide) ?_
              exact z_dr (ls' := [some (.ref q0), some (.ref q1), some (.int x2), some (.int (x3 + 1)), some (.int 1), some (.int (x5 + 1)), none]) ⟨rfl, rfl, rfl, rfl, rfl, rfl, trivial⟩ h
    · have h := h.2 hc
      refine z_iload (pc' := 49) dX3_numberAmong_47 rfl rfl ?_
      refine z_if_eq (pt := 62) (pc' := 52) dX3_numberAmong_49 (by decide) rfl (fun hc => ?_) (fun hc => ?_)
      · have h := h.1 hc
        refine z_iinc (y := x2 + 1) (pc' := 65) dX3_numberAmong_62 rfl (zinc_1 _) (by decide) rfl ?_
        refine z_aload_n (pc' := 66) dX3_numberAmong_65 rfl rfl ?_
        obtain ⟨h1, h⟩ := h
        refine z_getI (ci := 4) (kf := 7) (pc' := 69) dX3_numberAmong_66 kX3_32 (Or.inl rfl) (by decide) (by decide) rfl rfl h1 ?_
        refine z_istore_n (pc' := 70) dX3_numberAmong_69 (by decide) rfl ?_
        refine z_iconst (x := 1) (pc' := 71) dX3_numberAmong_70 (by decide) rfl ?_
        refine z_istore (pc' := 73) dX3_numberAmong_71 (by decide) rfl ?_
        refine z_goto (pc' := 119) dX3_numberAmong_73 (by decide) ?_
        refine z_iinc (y := x5 + 1) (pc' := 122) dX3_numberAmong_119 rfl (zinc_1 _) (by decide) rfl ?_
        refine z_goto (pc' := 23) dX3_numberAmong_122 (by decide) ?_
        exact z_dr (ls' := [some (.ref q0), some (.ref q1), some (.int (x2 + 1)), some (.int (ziv G q0 7)), some (.int 1), some (.int (x5 + 1)), none]) ⟨rfl, rfl, rfl, rfl, rfl, rfl, trivial⟩ h
      · have h := h.2 hc
        refine z_iload_n (pc' := 53) dX3_numberAmong_52 rfl rfl ?_
        refine z_aload_n (pc' := 54) dX3_numberAmong_53 rfl rfl ?_
        obtain ⟨h1, h⟩ := h
        refine z_getI (ci := 4) (kf := 8) (pc' := 57) dX3_numberAmong_54 kX3_35 (Or.inl rfl) (by decide) (by decide) rfl rfl h1 ?_
        refine z_icmp_ne (pt := 62) (pc' := 60) dX3_numberAmong_57 (by decide) rfl (fun hc => ?_) (fun hc => ?_)
        · have h := h.1 hc
          refine z_iinc (y := x2 + 1) (pc' := 65) dX3_numberAmong_62 rfl (zinc_1 _) (by decide) rfl ?_
          refine z_aload_n (pc' := 66) dX3_numberAmong_65 rfl rfl ?_
          obtain ⟨h1, h⟩ := h
          refine z_getI (ci := 4) (kf := 7) (pc' := 69) dX3_numberAmong_66 kX3_32 (Or.inl rfl) (by decide) (by decide) rfl rfl h1 ?_
          refine z_istore_n (pc' := 70) dX3_numberAmong_69 (by decide) rfl ?_
          refine z_iconst (x := 1) (pc' := 71) dX3_numberAmong_70 (by decide) rfl ?_
          refine z_istore (pc' := 73) dX3_numberAmong_71 (by decide) rfl ?_
          refine z_goto (pc' := 119) dX3_numberAmong_73 (by decide) ?_
          refine z_iinc (y := x5 + 1) (pc' := 122) dX3_numberAmong_119 rfl (zinc_1 _) (by decide) rfl ?_
          refine z_goto (pc' := 23) dX3_numberAmong_122 (by decide) ?_
          exact z_dr (ls' := [some (.ref q0), some (.ref q1), some (.int (x2 + 1)), some (.int (ziv G q0 7)), some (.int 1), some (.int (x5 + 1)), none]) ⟨rfl, rfl, rfl, rfl, rfl, rfl, trivial⟩ h
        · have h := h.2 hc
          refine z_iload_n (pc' := 61) dX3_numberAmong_60 rfl rfl ?_
          exact z_iret dX3_numberAmong_61 rfl h
def wp_X3_readAll_0 (E : ZE) (l : Launch) (d b : Nat) (G0 : ZG) (Q : ZQ) (k : Nat) (q0 : Nat) (x1 : Int32) (G : ZG) : Prop :=
  zob G q0 4 ∧
  xcI E l mX3_readAtom d [.ref q0, .int x1] G k (fun X G9 => Q (.inr X) G9) (fun y1 G2 k3 =>
  zW E l mX3_readAll d b G0 Q k3 8 [some (.ref q0), some (.int x1), some (.int y1), some (.int 0)] [] G2)
theorem wpt_X3_readAll_0 {E : ZE} {l : Launch} {d b : Nat} {G0 : ZG} {Q : ZQ} {k : Nat} {q0 : Nat} {x1 : Int32} {G : ZG} (h : wp_X3_readAll_0 E l d b G0 Q k q0 x1 G) : zW E l mX3_readAll d b G0 Q k 0 [some (.ref q0), some (.int x1), none, none] [] G := by
  unfold wp_X3_readAll_0 at h
  refine z_aload_n (pc' := 1) dX3_readAll_0 rfl rfl ?_
  refine z_iload_n (pc' := 2) dX3_readAll_1 rfl rfl ?_
  obtain ⟨h1, h⟩ := h
  obtain ⟨d1, b1, Qz, hm, hdd, hb, hkx, hk⟩ := h
  refine z_callV (Y := mX3_readAtom) (n := 1) (as := [.int x1]) (st := []) (pc' := 5) (ci := 4) (q := q0) hm dX3_readAll_2 kX3_103 vX3_readAtom rfl rfl (by decide) rfl h1 hdd hb (Nat.le_of_ble_eq_true rfl) (fun r G2 hz => ?_) hkx
  obtain ⟨y1, rfl, h⟩ := hk r G2 hz
  refine z_istore_n (pc' := 6) dX3_readAll_5 (by decide) rfl ?_
  refine z_iconst (x := 0) (pc' := 7) dX3_readAll_6 (by decide) rfl ?_
  refine z_istore_n (pc' := 8) dX3_readAll_7 (by decide) rfl ?_
  exact z_dr (ls' := [some (.ref q0), some (.int x1), some (.int y1), some (.int 0)]) ⟨rfl, rfl, rfl, rfl, trivial⟩ h
def wp_X3_readAll_8 (E : ZE) (l : Launch) (d b : Nat) (G0 : ZG) (Q : ZQ) (k : Nat) (q0 : Nat) (x1 : Int32) (x2 : Int32) (x3 : Int32) (G : ZG) : Prop :=
  zob G q0 4 ∧
  (zar G (zrv G q0 3) 0 ∨ zrd G (zrv G q0 3) .int) ∧
  (((Int32.ofNat (zln G (zrv G q0 3))) ≤ x3 →
    narrow .boolean (.int x2) = .int x2 ∧ Q (.inl (some (.int x2))) G) ∧
  (¬ ((Int32.ofNat (zln G (zrv G q0 3))) ≤ x3) →
    zob G q0 4 ∧
    xcI E l mX3_isWord d [.ref q0, .ref (zp 1000 5)] G k (fun X G9 => Q (.inr X) G9) (fun y1 G2 k3 =>
    ((y1 = 0 →
      narrow .boolean (.int x2) = .int x2 ∧ Q (.inl (some (.int x2))) G2) ∧
    (¬ (y1 = 0) →
      zob G2 q0 4 ∧
      xcV E l mX3_advance d [.ref q0] G2 k3 (fun X G9 => Q (.inr X) G9) (fun G4 k5 =>
      zob G4 q0 4 ∧
      xcI E l mX3_readAtom d [.ref q0, .int x1] G4 k5 (fun X G9 => Q (.inr X) G9) (fun y6 G7 k8 =>
      zW E l mX3_readAll d b G0 Q k8 8 [some (.ref q0), some (.int x1), some (.int (x2 &&& y6)), some (.int (x3 + 1))] [] G7)))))))
theorem wpt_X3_readAll_8 {E : ZE} {l : Launch} {d b : Nat} {G0 : ZG} {Q : ZQ} {k : Nat} {q0 : Nat} {x1 : Int32} {x2 : Int32} {x3 : Int32} {G : ZG} (h : wp_X3_readAll_8 E l d b G0 Q k q0 x1 x2 x3 G) : zW E l mX3_readAll d b G0 Q k 8 [some (.ref q0), some (.int x1), some (.int x2), some (.int x3)] [] G := by
  unfold wp_X3_readAll_8 at h
  refine z_iload_n (pc' := 9) dX3_readAll_8 rfl rfl ?_
  refine z_aload_n (pc' := 10) dX3_readAll_9 rfl rfl ?_
  obtain ⟨h1, h⟩ := h
  refine z_getR (ci := 4) (kf := 3) (pc' := 13) dX3_readAll_10 kX3_41 (Or.inl rfl) (by decide) (by decide) rfl rfl h1 ?_
  obtain ⟨h1, h⟩ := h
  refine z_alen (pc' := 14) dX3_readAll_13 rfl (h1.imp (fun h => ⟨0, by decide, h⟩) (fun h => ⟨_, h⟩)) rfl ?_
  refine z_icmp_ge (pt := 44) (pc' := 17) dX3_readAll_14 (by decide) rfl (fun hc => ?_) (fun hc => ?_)
  · have h := h.1 hc
    refine z_iload_n (pc' := 45) dX3_readAll_44 rfl rfl ?_
    exact z_zret (ty := .boolean) dX3_readAll_45 rfl h.1 h.2
  · have h := h.2 hc
    refine z_aload_n (pc' := 18) dX3_readAll_17 rfl rfl ?_
    refine z_ldcS (n := 5) (pc' := 20) (own := RX3) (tx := "and") rfl (by decide) dX3_readAll_18 rfl ?_
    obtain ⟨h1, h⟩ := h
    obtain ⟨d1, b1, Qz, hm, hdd, hb, hkx, hk⟩ := h
    refine z_callV (Y := mX3_isWord) (n := 1) (as := [.ref (zp 1000 5)]) (st := []) (pc' := 23) (ci := 4) (q := q0) hm dX3_readAll_20 kX3_85 vX3_isWord rfl rfl (by decide) rfl h1 hdd hb (Nat.le_of_ble_eq_true rfl) (fun r G2 hz => ?_) hkx
    obtain ⟨y1, rfl, h⟩ := hk r G2 hz
    refine z_if_eq (pt := 44) (pc' := 26) dX3_readAll_23 (by decide) rfl (fun hc => ?_) (fun hc => ?_)
    · have h := h.1 hc
      refine z_iload_n (pc' := 45) dX3_readAll_44 rfl rfl ?_
      exact z_zret (ty := .boolean) dX3_readAll_45 rfl h.1 h.2
    · have h := h.2 hc
      refine z_aload_n (pc' := 27) dX3_readAll_26 rfl rfl ?_
      obtain ⟨h1, h⟩ := h
      obtain ⟨d1, b1, Qz, hm, hdd, hb, hkx, hk⟩ := h
      refine z_callV (Y := mX3_advance) (n := 0) (as := []) (st := []) (pc' := 30) (ci := 4) (q := q0) hm dX3_readAll_27 kX3_44 vX3_advance rfl rfl (by decide) rfl h1 hdd hb (Nat.le_of_ble_eq_true rfl) (fun r G4 hz => ?_) hkx
      obtain ⟨rfl, h⟩ := hk r G4 hz
      refine z_iload_n (pc' := 31) dX3_readAll_30 rfl rfl ?_
      refine z_aload_n (pc' := 32) dX3_readAll_31 rfl rfl ?_
      refine z_iload_n (pc' := 33) dX3_readAll_32 rfl rfl ?_
      obtain ⟨h1, h⟩ := h
      obtain ⟨d1, b1, Qz, hm, hdd, hb, hkx, hk⟩ := h
      refine z_callV (Y := mX3_readAtom) (n := 1) (as := [.int x1]) (st := [.int x2]) (pc' := 36) (ci := 4) (q := q0) hm dX3_readAll_33 kX3_103 vX3_readAtom rfl rfl (by decide) rfl h1 hdd hb (Nat.le_of_ble_eq_true rfl) (fun r G7 hz => ?_) hkx
      obtain ⟨y6, rfl, h⟩ := hk r G7 hz
      refine z_iand (pc' := 37) dX3_readAll_36 rfl rfl ?_
      refine z_istore_n (pc' := 38) dX3_readAll_37 (by decide) rfl ?_
      refine z_iinc (y := x3 + 1) (pc' := 41) dX3_readAll_38 rfl (zinc_1 _) (by decide) rfl ?_
      refine z_goto (pc' := 8) dX3_readAll_41 (by decide) ?_
      exact z_dr (ls' := [some (.ref q0), some (.int x1), some (.int (x2 &&& y6)), some (.int (x3 + 1))]) ⟨rfl, rfl, rfl, rfl, trivial⟩ h
def wp_X3_readAny_0 (E : ZE) (l : Launch) (d b : Nat) (G0 : ZG) (Q : ZQ) (k : Nat) (q0 : Nat) (x1 : Int32) (G : ZG) : Prop :=
  zob G q0 4 ∧
  xcI E l mX3_readAll d [.ref q0, .int x1] G k (fun X G9 => Q (.inr X) G9) (fun y1 G2 k3 =>
  zW E l mX3_readAny d b G0 Q k3 8 [some (.ref q0), some (.int x1), some (.int y1), some (.int 0)] [] G2)
theorem wpt_X3_readAny_0 {E : ZE} {l : Launch} {d b : Nat} {G0 : ZG} {Q : ZQ} {k : Nat} {q0 : Nat} {x1 : Int32} {G : ZG} (h : wp_X3_readAny_0 E l d b G0 Q k q0 x1 G) : zW E l mX3_readAny d b G0 Q k 0 [some (.ref q0), some (.int x1), none, none] [] G := by
  unfold wp_X3_readAny_0 at h
  refine z_aload_n (pc' := 1) dX3_readAny_0 rfl rfl ?_
  refine z_iload_n (pc' := 2) dX3_readAny_1 rfl rfl ?_
  obtain ⟨h1, h⟩ := h
  obtain ⟨d1, b1, Qz, hm, hdd, hb, hkx, hk⟩ := h
  refine z_callV (Y := mX3_readAll) (n := 1) (as := [.int x1]) (st := []) (pc' := 5) (ci := 4) (q := q0) hm dX3_readAny_2 kX3_98 vX3_readAll rfl rfl (by decide) rfl h1 hdd hb (Nat.le_of_ble_eq_true rfl) (fun r G2 hz => ?_) hkx
  obtain ⟨y1, rfl, h⟩ := hk r G2 hz
  refine z_istore_n (pc' := 6) dX3_readAny_5 (by decide) rfl ?_
  refine z_iconst (x := 0) (pc' := 7) dX3_readAny_6 (by decide) rfl ?_
  refine z_istore_n (pc' := 8) dX3_readAny_7 (by decide) rfl ?_
  exact z_dr (ls' := [some (.ref q0), some (.int x1), some (.int y1), some (.int 0)]) ⟨rfl, rfl, rfl, rfl, trivial⟩ h
def wp_X3_readAny_8 (E : ZE) (l : Launch) (d b : Nat) (G0 : ZG) (Q : ZQ) (k : Nat) (q0 : Nat) (x1 : Int32) (x2 : Int32) (x3 : Int32) (G : ZG) : Prop :=
  zob G q0 4 ∧
  (zar G (zrv G q0 3) 0 ∨ zrd G (zrv G q0 3) .int) ∧
  (((Int32.ofNat (zln G (zrv G q0 3))) ≤ x3 →
    narrow .boolean (.int x2) = .int x2 ∧ Q (.inl (some (.int x2))) G) ∧
  (¬ ((Int32.ofNat (zln G (zrv G q0 3))) ≤ x3) →
    zob G q0 4 ∧
    xcI E l mX3_isWord d [.ref q0, .ref (zp 1000 6)] G k (fun X G9 => Q (.inr X) G9) (fun y1 G2 k3 =>
    ((y1 = 0 →
      narrow .boolean (.int x2) = .int x2 ∧ Q (.inl (some (.int x2))) G2) ∧
    (¬ (y1 = 0) →
      zob G2 q0 4 ∧
      xcV E l mX3_advance d [.ref q0] G2 k3 (fun X G9 => Q (.inr X) G9) (fun G4 k5 =>
      zob G4 q0 4 ∧
      xcI E l mX3_readAll d [.ref q0, .int x1] G4 k5 (fun X G9 => Q (.inr X) G9) (fun y6 G7 k8 =>
      zW E l mX3_readAny d b G0 Q k8 8 [some (.ref q0), some (.int x1), some (.int (x2 ||| y6)), some (.int (x3 + 1))] [] G7)))))))
theorem wpt_X3_readAny_8 {E : ZE} {l : Launch} {d b : Nat} {G0 : ZG} {Q : ZQ} {k : Nat} {q0 : Nat} {x1 : Int32} {x2 : Int32} {x3 : Int32} {G : ZG} (h : wp_X3_readAny_8 E l d b G0 Q k q0 x1 x2 x3 G) : zW E l mX3_readAny d b G0 Q k 8 [some (.ref q0), some (.int x1), some (.int x2), some (.int x3)] [] G := by
  unfold wp_X3_readAny_8 at h
  refine z_iload_n (pc' := 9) dX3_readAny_8 rfl rfl ?_
  refine z_aload_n (pc' := 10) dX3_readAny_9 rfl rfl ?_
  obtain ⟨h1, h⟩ := h
  refine z_getR (ci := 4) (kf := 3) (pc' := 13) dX3_readAny_10 kX3_41 (Or.inl rfl) (by decide) (by decide) rfl rfl h1 ?_
  obtain ⟨h1, h⟩ := h
  refine z_alen (pc' := 14) dX3_readAny_13 rfl (h1.imp (fun h => ⟨0, by decide, h⟩) (fun h => ⟨_, h⟩)) rfl ?_
  refine z_icmp_ge (pt := 44) (pc' := 17) dX3_readAny_14 (by decide) rfl (fun hc => ?_) (fun hc => ?_)
  · have h := h.1 hc
    refine z_iload_n (pc' := 45) dX3_readAny_44 rfl rfl ?_
    exact z_zret (ty := .boolean) dX3_readAny_45 rfl h.1 h.2
  · have h := h.2 hc
    refine z_aload_n (pc' := 18) dX3_readAny_17 rfl rfl ?_
    refine z_ldcS (n := 6) (pc' := 20) (own := RX3) (tx := "or") rfl (by decide) dX3_readAny_18 rfl ?_
    obtain ⟨h1, h⟩ := h
    obtain ⟨d1, b1, Qz, hm, hdd, hb, hkx, hk⟩ := h
    refine z_callV (Y := mX3_isWord) (n := 1) (as := [.ref (zp 1000 6)]) (st := []) (pc' := 23) (ci := 4) (q := q0) hm dX3_readAny_20 kX3_85 vX3_isWord rfl rfl (by decide) rfl h1 hdd hb (Nat.le_of_ble_eq_true rfl) (fun r G2 hz => ?_) hkx
    obtain ⟨y1, rfl, h⟩ := hk r G2 hz
    refine z_if_eq (pt := 44) (pc' := 26) dX3_readAny_23 (by decide) rfl (fun hc => ?_) (fun hc => ?_)
    · have h := h.1 hc
      refine z_iload_n (pc' := 45) dX3_readAny_44 rfl rfl ?_
      exact z_zret (ty := .boolean) dX3_readAny_45 rfl h.1 h.2
    · have h := h.2 hc
      refine z_aload_n (pc' := 27) dX3_readAny_26 rfl rfl ?_
      obtain ⟨h1, h⟩ := h
      obtain ⟨d1, b1, Qz, hm, hdd, hb, hkx, hk⟩ := h
      refine z_callV (Y := mX3_advance) (n := 0) (as := []) (st := []) (pc' := 30) (ci := 4) (q := q0) hm dX3_readAny_27 kX3_44 vX3_advance rfl rfl (by decide) rfl h1 hdd hb (Nat.le_of_ble_eq_true rfl) (fun r G4 hz => ?_) hkx
      obtain ⟨rfl, h⟩ := hk r G4 hz
      refine z_iload_n (pc' := 31) dX3_readAny_30 rfl rfl ?_
      refine z_aload_n (pc' := 32) dX3_readAny_31 rfl rfl ?_
      refine z_iload_n (pc' := 33) dX3_readAny_32 rfl rfl ?_
      obtain ⟨h1, h⟩ := h
      obtain ⟨d1, b1, Qz, hm, hdd, hb, hkx, hk⟩ := h
      refine z_callV (Y := mX3_readAll) (n := 1) (as := [.int x1]) (st := [.int x2]) (pc' := 36) (ci := 4) (q := q0) hm dX3_readAny_33 kX3_98 vX3_readAll rfl rfl (by decide) rfl h1 hdd hb (Nat.le_of_ble_eq_true rfl) (fun r G7 hz => ?_) hkx
      obtain ⟨y6, rfl, h⟩ := hk r G7 hz
      refine z_ior (pc' := 37) dX3_readAny_36 rfl rfl ?_
      refine z_istore_n (pc' := 38) dX3_readAny_37 (by decide) rfl ?_
      refine z_iinc (y := x3 + 1) (pc' := 41) dX3_readAny_38 rfl (zinc_1 _) (by decide) rfl ?_
      refine z_goto (pc' := 8) dX3_readAny_41 (by decide) ?_
      exact z_dr (ls' := [some (.ref q0), some (.int x1), some (.int (x2 ||| y6)), some (.int (x3 + 1))]) ⟨rfl, rfl, rfl, rfl, trivial⟩ h
def wp_X3_readAtom_0 (E : ZE) (l : Launch) (d b : Nat) (G0 : ZG) (Q : ZQ) (k : Nat) (q0 : Nat) (x1 : Int32) (G : ZG) : Prop :=
  zob G q0 4 ∧
  xcI E l mX3_isWord d [.ref q0, .ref (zp 1000 3)] G k (fun X G9 => Q (.inr X) G9) (fun y1 G2 k3 =>
  ((¬ y1 = 0 →
    zW E l mX3_readAtom d b G0 Q k3 25 [some (.ref q0), some (.int x1), some (.int y1), none] [] G2) ∧
  (¬ (¬ y1 = 0) →
    zob G2 q0 4 ∧
    xcI E l mX3_isSign d [.ref q0, .int 40] G2 k3 (fun X G9 => Q (.inr X) G9) (fun y4 G5 k6 =>
    ((¬ y4 = 0 →
      zW E l mX3_readAtom d b G0 Q k6 25 [some (.ref q0), some (.int x1), some (.int y1), none] [] G5) ∧
    (¬ (¬ y4 = 0) →
      zob G5 q0 4 ∧
      xcI E l mX3_readFact d [.ref q0] G5 k6 (fun X G9 => Q (.inr X) G9) (fun y7 G8 k9 =>
      narrow .boolean (.int y7) = .int y7 ∧ Q (.inl (some (.int y7))) G8)))))))
theorem wpt_X3_readAtom_0 {E : ZE} {l : Launch} {d b : Nat} {G0 : ZG} {Q : ZQ} {k : Nat} {q0 : Nat} {x1 : Int32} {G : ZG} (h : wp_X3_readAtom_0 E l d b G0 Q k q0 x1 G) : zW E l mX3_readAtom d b G0 Q k 0 [some (.ref q0), some (.int x1), none, none] [] G := by
  unfold wp_X3_readAtom_0 at h
  refine z_aload_n (pc' := 1) dX3_readAtom_0 rfl rfl ?_
  refine z_ldcS (n := 3) (pc' := 3) (own := RX3) (tx := "not") rfl (by decide) dX3_readAtom_1 rfl ?_
  obtain ⟨h1, h⟩ := h
  obtain ⟨d1, b1, Qz, hm, hdd, hb, hkx, hk⟩ := h
  refine z_callV (Y := mX3_isWord) (n := 1) (as := [.ref (zp 1000 3)]) (st := []) (pc' := 6) (ci := 4) (q := q0) hm dX3_readAtom_3 kX3_85 vX3_isWord rfl rfl (by decide) rfl h1 hdd hb (Nat.le_of_ble_eq_true rfl) (fun r G2 hz => ?_) hkx
  obtain ⟨y1, rfl, h⟩ := hk r G2 hz
  refine z_istore_n (pc' := 7) dX3_readAtom_6 (by decide) rfl ?_
  refine z_iload_n (pc' := 8) dX3_readAtom_7 rfl rfl ?_
  refine z_if_ne (pt := 25) (pc' := 11) dX3_readAtom_8 (by decide) rfl (fun hc => ?_) (fun hc => ?_)
  · have h := h.1 hc
    exact z_dr (ls' := [some (.ref q0), some (.int x1), some (.int y1), none]) ⟨rfl, rfl, rfl, trivial⟩ h
  · have h := h.2 hc
    refine z_aload_n (pc' := 12) dX3_readAtom_11 rfl rfl ?_
    refine z_bipush (x := 40) (pc' := 14) dX3_readAtom_12 (by decide) rfl ?_
    obtain ⟨h1, h⟩ := h
    obtain ⟨d1, b1, Qz, hm, hdd, hb, hkx, hk⟩ := h
    refine z_callV (Y := mX3_isSign) (n := 1) (as := [.int 40]) (st := []) (pc' := 17) (ci := 4) (q := q0) hm dX3_readAtom_14 kX3_50 vX3_isSign rfl rfl (by decide) rfl h1 hdd hb (Nat.le_of_ble_eq_true rfl) (fun r G5 hz => ?_) hkx
    obtain ⟨y4, rfl, h⟩ := hk r G5 hz
    refine z_if_ne (pt := 25) (pc' := 20) dX3_readAtom_17 (by decide) rfl (fun hc => ?_) (fun hc => ?_)
    · have h := h.1 hc
      exact z_dr (ls' := [some (.ref q0), some (.int x1), some (.int y1), none]) ⟨rfl, rfl, rfl, trivial⟩ h
    · have h := h.2 hc
      refine z_aload_n (pc' := 21) dX3_readAtom_20 rfl rfl ?_
      obtain ⟨h1, h⟩ := h
      obtain ⟨d1, b1, Qz, hm, hdd, hb, hkx, hk⟩ := h
      refine z_callV (Y := mX3_readFact) (n := 0) (as := []) (st := []) (pc' := 24) (ci := 4) (q := q0) hm dX3_readAtom_21 kX3_110 vX3_readFact rfl rfl (by decide) rfl h1 hdd hb (Nat.le_of_ble_eq_true rfl) (fun r G8 hz => ?_) hkx
      obtain ⟨y7, rfl, h⟩ := hk r G8 hz
      exact z_zret (ty := .boolean) dX3_readAtom_24 rfl h.1 h.2
def wp_X3_readAtom_25 (E : ZE) (l : Launch) (d b : Nat) (G0 : ZG) (Q : ZQ) (k : Nat) (q0 : Nat) (x1 : Int32) (x2 : Int32) (G : ZG) : Prop :=
  ((x1 < 8 →
    zob G q0 4 ∧
    xcV E l mX3_advance d [.ref q0] G k (fun X G9 => Q (.inr X) G9) (fun G1 k2 =>
    ((x2 = 0 →
      zob G1 q0 4 ∧
      xcI E l mX3_readAny d [.ref q0, .int (x1 + 1)] G1 k2 (fun X G9 => Q (.inr X) G9) (fun y3 G4 k5 =>
      zob G4 q0 4 ∧
      xcI E l mX3_isSign d [.ref q0, .int 41] G4 k5 (fun X G9 => Q (.inr X) G9) (fun y6 G7 k8 =>
      ((y6 = 0 →
        zob G7 q0 4 ∧
        xcV E l mX3_fail d [.ref q0] G7 k8 (fun X G9 => Q (.inr X) G9) (fun G9 k10 =>
        narrow .boolean (.int y3) = .int y3 ∧ Q (.inl (some (.int y3))) G9)) ∧
      (¬ (y6 = 0) →
        zob G7 q0 4 ∧
        xcV E l mX3_advance d [.ref q0] G7 k8 (fun X G9 => Q (.inr X) G9) (fun G11 k12 =>
        narrow .boolean (.int y3) = .int y3 ∧ Q (.inl (some (.int y3))) G11)))))) ∧
    (¬ (x2 = 0) →
      zob G1 q0 4 ∧
      xcI E l mX3_readAtom d [.ref q0, .int (x1 + 1)] G1 k2 (fun X G9 => Q (.inr X) G9) (fun y13 G14 k15 =>
      ((¬ y13 = 0 →
        Q (.inl (some (.int 0))) G14) ∧
      (¬ (¬ y13 = 0) →
        Q (.inl (some (.int 1))) G14))))))) ∧
  (¬ (x1 < 8) →
    zob G q0 4 ∧
    xcV E l mX3_fail d [.ref q0] G k (fun X G9 => Q (.inr X) G9) (fun G16 k17 =>
    Q (.inl (some (.int 0))) G16)))
theorem wpt_X3_readAtom_25 {E : ZE} {l : Launch} {d b : Nat} {G0 : ZG} {Q : ZQ} {k : Nat} {q0 : Nat} {x1 : Int32} {x2 : Int32} {G : ZG} (h : wp_X3_readAtom_25 E l d b G0 Q k q0 x1 x2 G) : zW E l mX3_readAtom d b G0 Q k 25 [some (.ref q0), some (.int x1), some (.int x2), none] [] G := by
  unfold wp_X3_readAtom_25 at h
  refine z_iload_n (pc' := 26) dX3_readAtom_25 rfl rfl ?_
  refine z_bipush (x := 8) (pc' := 28) dX3_readAtom_26 (by decide) rfl ?_
  refine z_icmp_lt (pt := 37) (pc' := 31) dX3_readAtom_28 (by decide) rfl (fun hc => ?_) (fun hc => ?_)
  · have h := h.1 hc
    refine z_aload_n (pc' := 38) dX3_readAtom_37 rfl rfl ?_
    obtain ⟨h1, h⟩ := h
    obtain ⟨d1, b1, Qz, hm, hdd, hb, hkx, hk⟩ := h
    refine z_callV (Y := mX3_advance) (n := 0) (as := []) (st := []) (pc' := 41) (ci := 4) (q := q0) hm dX3_readAtom_38 kX3_44 vX3_advance rfl rfl (by decide) rfl h1 hdd hb (Nat.le_of_ble_eq_true rfl) (fun r G1 hz => ?_) hkx
    obtain ⟨rfl, h⟩ := hk r G1 hz
    refine z_iload_n (pc' := 42) dX3_readAtom_41 rfl rfl ?_
    refine z_if_eq (pt := 61) (pc' := 45) dX3_readAtom_42 (by decide) rfl (fun hc => ?_) (fun hc => ?_)
    · have h := h.1 hc
      refine z_aload_n (pc' := 62) dX3_readAtom_61 rfl rfl ?_
      refine z_iload_n (pc' := 63) dX3_readAtom_62 rfl rfl ?_
      refine z_iconst (x := 1) (pc' := 64) dX3_readAtom_63 (by decide) rfl ?_
      refine z_iadd (pc' := 65) dX3_readAtom_64 rfl rfl ?_
      obtain ⟨h1, h⟩ := h
      obtain ⟨d1, b1, Qz, hm, hdd, hb, hkx, hk⟩ := h
      refine z_callV (Y := mX3_readAny) (n := 1) (as := [.int (x1 + 1)]) (st := []) (pc' := 68) (ci := 4) (q := q0) hm dX3_readAtom_65 kX3_89 vX3_readAny rfl rfl (by decide) rfl h1 hdd hb (Nat.le_of_ble_eq_true rfl) (fun r G4 hz => ?_) hkx
      obtain ⟨y3, rfl, h⟩ := hk r G4 hz
      refine z_istore_n (pc' := 69) dX3_readAtom_68 (by decide) rfl ?_
      refine z_aload_n (pc' := 70) dX3_readAtom_69 rfl rfl ?_
      refine z_bipush (x := 41) (pc' := 72) dX3_readAtom_70 (by decide) rfl ?_
      obtain ⟨h1, h⟩ := h
      obtain ⟨d1, b1, Qz, hm, hdd, hb, hkx, hk⟩ := h
      refine z_callV (Y := mX3_isSign) (n := 1) (as := [.int 41]) (st := []) (pc' := 75) (ci := 4) (q := q0) hm dX3_readAtom_72 kX3_50 vX3_isSign rfl rfl (by decide) rfl h1 hdd hb (Nat.le_of_ble_eq_true rfl) (fun r G7 hz => ?_) hkx
      obtain ⟨y6, rfl, h⟩ := hk r G7 hz
      refine z_if_eq (pt := 85) (pc' := 78) dX3_readAtom_75 (by decide) rfl (fun hc => ?_) (fun hc => ?_)
      · have h := h.1 hc
        refine z_aload_n (pc' := 86) dX3_readAtom_85 rfl rfl ?_
        obtain ⟨h1, h⟩ := h
        obtain ⟨d1, b1, Qz, hm, hdd, hb, hkx, hk⟩ := h
        refine z_callV (Y := mX3_fail) (n := 0) (as := []) (st := []) (pc' := 89) (ci := 4) (q := q0) hm dX3_readAtom_86 kX3_54 vX3_fail rfl rfl (by decide) rfl h1 hdd hb (Nat.le_of_ble_eq_true rfl) (fun r G9 hz => ?_) hkx
        obtain ⟨rfl, h⟩ := hk r G9 hz
        refine z_iload_n (pc' := 90) dX3_readAtom_89 rfl rfl ?_
        exact z_zret (ty := .boolean) dX3_readAtom_90 rfl h.1 h.2
      · have h := h.2 hc
        refine z_aload_n (pc' := 79) dX3_readAtom_78 rfl rfl ?_
        obtain ⟨h1, h⟩ := h
        obtain ⟨d1, b1, Qz, hm, hdd, hb, hkx, hk⟩ := h
        refine z_callV (Y := mX3_advance) (n := 0) (as := []) (st := []) (pc' := 82) (ci := 4) (q := q0) hm dX3_readAtom_79 kX3_44 vX3_advance rfl rfl (by decide) rfl h1 hdd hb (Nat.le_of_ble_eq_true rfl) (fun r G11 hz => ?_) hkx
        obtain ⟨rfl, h⟩ := hk r G11 hz
        refine z_goto (pc' := 89) dX3_readAtom_82 (by decide) ?_
        refine z_iload_n (pc' := 90) dX3_readAtom_89 rfl rfl ?_
        exact z_zret (ty := .boolean) dX3_readAtom_90 rfl h.1 h.2
    · have h := h.2 hc
      refine z_aload_n (pc' := 46) dX3_readAtom_45 rfl rfl ?_
      refine z_iload_n (pc' := 47) dX3_readAtom_46 rfl rfl ?_
      refine z_iconst (x := 1) (pc' := 48) dX3_readAtom_47 (by decide) rfl ?_
      refine z_iadd (pc' := 49) dX3_readAtom_48 rfl rfl ?_
      obtain ⟨h1, h⟩ := h
      obtain ⟨d1, b1, Qz, hm, hdd, hb, hkx, hk⟩ := h
      refine z_callV (Y := mX3_readAtom) (n := 1) (as := [.int (x1 + 1)]) (st := []) (pc' := 52) (ci := 4) (q := q0) hm dX3_readAtom_49 kX3_103 vX3_readAtom rfl rfl (by decide) rfl h1 hdd hb (Nat.le_of_ble_eq_true rfl) (fun r G14 hz => ?_) hkx
      obtain ⟨y13, rfl, h⟩ := hk r G14 hz
      refine z_if_ne (pt := 59) (pc' := 55) dX3_readAtom_52 (by decide) rfl (fun hc => ?_) (fun hc => ?_)
      · have h := h.1 hc
        refine z_iconst (x := 0) (pc' := 60) dX3_readAtom_59 (by decide) rfl ?_
        exact z_zret (ty := .boolean) dX3_readAtom_60 rfl (by decide) h
      · have h := h.2 hc
        refine z_iconst (x := 1) (pc' := 56) dX3_readAtom_55 (by decide) rfl ?_
        refine z_goto (pc' := 60) dX3_readAtom_56 (by decide) ?_
        exact z_zret (ty := .boolean) dX3_readAtom_60 rfl (by decide) h
  · have h := h.2 hc
    refine z_aload_n (pc' := 32) dX3_readAtom_31 rfl rfl ?_
    obtain ⟨h1, h⟩ := h
    obtain ⟨d1, b1, Qz, hm, hdd, hb, hkx, hk⟩ := h
    refine z_callV (Y := mX3_fail) (n := 0) (as := []) (st := []) (pc' := 35) (ci := 4) (q := q0) hm dX3_readAtom_32 kX3_54 vX3_fail rfl rfl (by decide) rfl h1 hdd hb (Nat.le_of_ble_eq_true rfl) (fun r G16 hz => ?_) hkx
    obtain ⟨rfl, h⟩ := hk r G16 hz
    refine z_iconst (x := 0) (pc' := 36) dX3_readAtom_35 (by decide) rfl ?_
    exact z_zret (ty := .boolean) dX3_readAtom_36 rfl (by decide) h
def wp_X3_readClause_0 (E : ZE) (l : Launch) (d b : Nat) (G0 : ZG) (Q : ZQ) (k : Nat) (q0 : Nat) (G : ZG) : Prop :=
  zob G q0 4 ∧
  xcI E l mX3_numberAmong d [.ref q0, .ref (zp 1000 0)] G k (fun X G9 => Q (.inr X) G9) (fun y1 G2 k3 =>
  ((¬ y1 = (-1) →
    zob G2 q0 4 ∧
    xcV E l mX3_advance d [.ref q0] G2 k3 (fun X G9 => Q (.inr X) G9) (fun G4 k5 =>
    ((¬ y1 = 0 →
      ((y1 = 5 →
        zW E l mX3_readClause d b G0 Q k5 45 [some (.ref q0), some (.int y1), some (.int 0), none] [] G4) ∧
      (¬ (y1 = 5) →
        zob G4 q0 4 ∧
        xcI E l mX3_readNumber d [.ref q0] G4 k5 (fun X G9 => Q (.inr X) G9) (fun y6 G7 k8 =>
        zW E l mX3_readClause d b G0 Q k8 45 [some (.ref q0), some (.int y1), some (.int y6), none] [] G7)))) ∧
    (¬ (¬ y1 = 0) →
      zob G4 q0 4 ∧
      xcI E l mX3_readItem d [.ref q0] G4 k5 (fun X G9 => Q (.inr X) G9) (fun y9 G10 k11 =>
      zW E l mX3_readClause d b G0 Q k11 45 [some (.ref q0), some (.int y1), some (.int y9), none] [] G10))))) ∧
  (¬ (¬ y1 = (-1)) →
    zob G2 q0 4 ∧
    xcV E l mX3_fail d [.ref q0] G2 k3 (fun X G9 => Q (.inr X) G9) (fun G12 k13 =>
    Q (.inl none) G12))))
theorem wpt_X3_readClause_0 {E : ZE} {l : Launch} {d b : Nat} {G0 : ZG} {Q : ZQ} {k : Nat} {q0 : Nat} {G : ZG} (h : wp_X3_readClause_0 E l d b G0 Q k q0 G) : zW E l mX3_readClause d b G0 Q k 0 [some (.ref q0), none, none, none] [] G := by
  unfold wp_X3_readClause_0 at h
  refine z_aload_n (pc' := 1) dX3_readClause_0 rfl rfl ?_
  refine z_ldcS (n := 0) (pc' := 3) (own := RX3) (tx := "need fee back years risk see") rfl (by decide) dX3_readClause_1 rfl ?_
  obtain ⟨h1, h⟩ := h
  obtain ⟨d1, b1, Qz, hm, hdd, hb, hkx, hk⟩ := h
  refine z_callV (Y := mX3_numberAmong) (n := 1) (as := [.ref (zp 1000 0)]) (st := []) (pc' := 6) (ci := 4) (q := q0) hm dX3_readClause_3 kX3_61 vX3_numberAmong rfl rfl (by decide) rfl h1 hdd hb (Nat.le_of_ble_eq_true rfl) (fun r G2 hz => ?_) hkx
  obtain ⟨y1, rfl, h⟩ := hk r G2 hz
  refine z_istore_n (pc' := 7) dX3_readClause_6 (by decide) rfl ?_
  refine z_iload_n (pc' := 8) dX3_readClause_7 rfl rfl ?_
  refine z_iconst (x := (-1)) (pc' := 9) dX3_readClause_8 (by decide) rfl ?_
  refine z_icmp_ne (pt := 17) (pc' := 12) dX3_readClause_9 (by decide) rfl (fun hc => ?_) (fun hc => ?_)
  · have h := h.1 hc
    refine z_aload_n (pc' := 18) dX3_readClause_17 rfl rfl ?_
    obtain ⟨h1, h⟩ := h
    obtain ⟨d1, b1, Qz, hm, hdd, hb, hkx, hk⟩ := h
    refine z_callV (Y := mX3_advance) (n := 0) (as := []) (st := []) (pc' := 21) (ci := 4) (q := q0) hm dX3_readClause_18 kX3_44 vX3_advance rfl rfl (by decide) rfl h1 hdd hb (Nat.le_of_ble_eq_true rfl) (fun r G4 hz => ?_) hkx
    obtain ⟨rfl, h⟩ := hk r G4 hz
    refine z_iconst (x := 0) (pc' := 22) dX3_readClause_21 (by decide) rfl ?_
    refine z_istore_n (pc' := 23) dX3_readClause_22 (by decide) rfl ?_
    refine z_iload_n (pc' := 24) dX3_readClause_23 rfl rfl ?_
    refine z_if_ne (pt := 35) (pc' := 27) dX3_readClause_24 (by decide) rfl (fun hc => ?_) (fun hc => ?_)
    · have h := h.1 hc
      refine z_iload_n (pc' := 36) dX3_readClause_35 rfl rfl ?_
      refine z_iconst (x := 5) (pc' := 37) dX3_readClause_36 (by decide) rfl ?_
      refine z_icmp_eq (pt := 45) (pc' := 40) dX3_readClause_37 (by decide) rfl (fun hc => ?_) (fun hc => ?_)
      · have h := h.1 hc
        exact z_dr (ls' := [some (.ref q0), some (.int y1), some (.int 0), none]) ⟨rfl, rfl, rfl, trivial⟩ h
      · have h := h.2 hc
        refine z_aload_n (pc' := 41) dX3_readClause_40 rfl rfl ?_
        obtain ⟨h1, h⟩ := h
        obtain ⟨d1, b1, Qz, hm, hdd, hb, hkx, hk⟩ := h
        refine z_callV (Y := mX3_readNumber) (n := 0) (as := []) (st := []) (pc' := 44) (ci := 4) (q := q0) hm dX3_readClause_41 kX3_80 vX3_readNumber rfl rfl (by decide) rfl h1 hdd hb (Nat.le_of_ble_eq_true rfl) (fun r G7 hz => ?_) hkx
        obtain ⟨y6, rfl, h⟩ := hk r G7 hz
        refine z_istore_n (pc' := 45) dX3_readClause_44 (by decide) rfl ?_
        exact z_dr (ls' := [some (.ref q0), some (.int y1), some (.int y6), none]) ⟨rfl, rfl, rfl, trivial⟩ h
    · have h := h.2 hc
      refine z_aload_n (pc' := 28) dX3_readClause_27 rfl rfl ?_
      obtain ⟨h1, h⟩ := h
      obtain ⟨d1, b1, Qz, hm, hdd, hb, hkx, hk⟩ := h
      refine z_callV (Y := mX3_readItem) (n := 0) (as := []) (st := []) (pc' := 31) (ci := 4) (q := q0) hm dX3_readClause_28 kX3_77 vX3_readItem rfl rfl (by decide) rfl h1 hdd hb (Nat.le_of_ble_eq_true rfl) (fun r G10 hz => ?_) hkx
      obtain ⟨y9, rfl, h⟩ := hk r G10 hz
      refine z_istore_n (pc' := 32) dX3_readClause_31 (by decide) rfl ?_
      refine z_goto (pc' := 45) dX3_readClause_32 (by decide) ?_
      exact z_dr (ls' := [some (.ref q0), some (.int y1), some (.int y9), none]) ⟨rfl, rfl, rfl, trivial⟩ h
  · have h := h.2 hc
    refine z_aload_n (pc' := 13) dX3_readClause_12 rfl rfl ?_
    obtain ⟨h1, h⟩ := h
    obtain ⟨d1, b1, Qz, hm, hdd, hb, hkx, hk⟩ := h
    refine z_callV (Y := mX3_fail) (n := 0) (as := []) (st := []) (pc' := 16) (ci := 4) (q := q0) hm dX3_readClause_13 kX3_54 vX3_fail rfl rfl (by decide) rfl h1 hdd hb (Nat.le_of_ble_eq_true rfl) (fun r G12 hz => ?_) hkx
    obtain ⟨rfl, h⟩ := hk r G12 hz
    exact z_vret dX3_readClause_16 rfl h
def wp_X3_readClause_45 (E : ZE) (l : Launch) (d b : Nat) (G0 : ZG) (Q : ZQ) (k : Nat) (q0 : Nat) (x1 : Int32) (x2 : Int32) (G : ZG) : Prop :=
  zob G q0 4 ∧
  xcI E l mX3_isWord d [.ref q0, .ref (zp 1000 2)] G k (fun X G9 => Q (.inr X) G9) (fun y1 G2 k3 =>
  ((y1 = 0 →
    (((1 : Int32) = 0 →
      Q (.inl none) G2) ∧
    (¬ ((1 : Int32) = 0) →
      zob G2 q0 4 ∧
      zob G2 (zrv G2 q0 5) 11 ∧
      xcV E l mX10_take d [.ref (zrv G2 q0 5), .int x1, .int x2] G2 k3 (fun X G9 => Q (.inr X) G9) (fun G4 k5 =>
      Q (.inl none) G4)))) ∧
  (¬ (y1 = 0) →
    zob G2 q0 4 ∧
    xcV E l mX3_advance d [.ref q0] G2 k3 (fun X G9 => Q (.inr X) G9) (fun G6 k7 =>
    zob G6 q0 4 ∧
    xcI E l mX3_readAny d [.ref q0, .int 0] G6 k7 (fun X G9 => Q (.inr X) G9) (fun y8 G9 k10 =>
    ((y8 = 0 →
      Q (.inl none) G9) ∧
    (¬ (y8 = 0) →
      zob G9 q0 4 ∧
      zob G9 (zrv G9 q0 5) 11 ∧
      xcV E l mX10_take d [.ref (zrv G9 q0 5), .int x1, .int x2] G9 k10 (fun X G9 => Q (.inr X) G9) (fun G11 k12 =>
      Q (.inl none) G11))))))))
theorem wpt_X3_readClause_45 {E : ZE} {l : Launch} {d b : Nat} {G0 : ZG} {Q : ZQ} {k : Nat} {q0 : Nat} {x1 : Int32} {x2 : Int32} {G : ZG} (h : wp_X3_readClause_45 E l d b G0 Q k q0 x1 x2 G) : zW E l mX3_readClause d b G0 Q k 45 [some (.ref q0), some (.int x1), some (.int x2), none] [] G := by
  unfold wp_X3_readClause_45 at h
  refine z_iconst (x := 1) (pc' := 46) dX3_readClause_45 (by decide) rfl ?_
  refine z_istore_n (pc' := 47) dX3_readClause_46 (by decide) rfl ?_
  refine z_aload_n (pc' := 48) dX3_readClause_47 rfl rfl ?_
  refine z_ldcS (n := 2) (pc' := 50) (own := RX3) (tx := "if") rfl (by decide) dX3_readClause_48 rfl ?_
  obtain ⟨h1, h⟩ := h
  obtain ⟨d1, b1, Qz, hm, hdd, hb, hkx, hk⟩ := h
  refine z_callV (Y := mX3_isWord) (n := 1) (as := [.ref (zp 1000 2)]) (st := []) (pc' := 53) (ci := 4) (q := q0) hm dX3_readClause_50 kX3_85 vX3_isWord rfl rfl (by decide) rfl h1 hdd hb (Nat.le_of_ble_eq_true rfl) (fun r G2 hz => ?_) hkx
  obtain ⟨y1, rfl, h⟩ := hk r G2 hz
  refine z_if_eq (pt := 66) (pc' := 56) dX3_readClause_53 (by decide) rfl (fun hc => ?_) (fun hc => ?_)
  · have h := h.1 hc
    refine z_iload_n (pc' := 67) dX3_readClause_66 rfl rfl ?_
    refine z_if_eq (pt := 79) (pc' := 70) dX3_readClause_67 (by decide) rfl (fun hc => ?_) (fun hc => ?_)
    · have h := h.1 hc
      exact z_vret dX3_readClause_79 rfl h
    · have h := h.2 hc
      refine z_aload_n (pc' := 71) dX3_readClause_70 rfl rfl ?_
      obtain ⟨h1, h⟩ := h
      refine z_getR (ci := 4) (kf := 5) (pc' := 74) dX3_readClause_71 kX3_25 (Or.inl rfl) (by decide) (by decide) rfl rfl h1 ?_
      refine z_iload_n (pc' := 75) dX3_readClause_74 rfl rfl ?_
      refine z_iload_n (pc' := 76) dX3_readClause_75 rfl rfl ?_
      obtain ⟨h1, h⟩ := h
      obtain ⟨d1, b1, Qz, hm, hdd, hb, hkx, hk⟩ := h
      refine z_callV (Y := mX10_take) (n := 2) (as := [.int x1, .int x2]) (st := []) (pc' := 79) (ci := 11) (q := (zrv G2 q0 5)) hm dX3_readClause_76 kX3_92 vX10_take rfl rfl (by decide) rfl h1 hdd hb (Nat.le_of_ble_eq_true rfl) (fun r G4 hz => ?_) hkx
      obtain ⟨rfl, h⟩ := hk r G4 hz
      exact z_vret dX3_readClause_79 rfl h
  · have h := h.2 hc
    refine z_aload_n (pc' := 57) dX3_readClause_56 rfl rfl ?_
    obtain ⟨h1, h⟩ := h
    obtain ⟨d1, b1, Qz, hm, hdd, hb, hkx, hk⟩ := h
    refine z_callV (Y := mX3_advance) (n := 0) (as := []) (st := []) (pc' := 60) (ci := 4) (q := q0) hm dX3_readClause_57 kX3_44 vX3_advance rfl rfl (by decide) rfl h1 hdd hb (Nat.le_of_ble_eq_true rfl) (fun r G6 hz => ?_) hkx
    obtain ⟨rfl, h⟩ := hk r G6 hz
    refine z_aload_n (pc' := 61) dX3_readClause_60 rfl rfl ?_
    refine z_iconst (x := 0) (pc' := 62) dX3_readClause_61 (by decide) rfl ?_
    obtain ⟨h1, h⟩ := h
    obtain ⟨d1, b1, Qz, hm, hdd, hb, hkx, hk⟩ := h
    refine z_callV (Y := mX3_readAny) (n := 1) (as := [.int 0]) (st := []) (pc' := 65) (ci := 4) (q := q0) hm dX3_readClause_62 kX3_89 vX3_readAny rfl rfl (by decide) rfl h1 hdd hb (Nat.le_of_ble_eq_true rfl) (fun r G9 hz => ?_) hkx
    obtain ⟨y8, rfl, h⟩ := hk r G9 hz
    refine z_istore_n (pc' := 66) dX3_readClause_65 (by decide) rfl ?_
    refine z_iload_n (pc' := 67) dX3_readClause_66 rfl rfl ?_
    refine z_if_eq (pt := 79) (pc' := 70) dX3_readClause_67 (by decide) rfl (fun hc => ?_) (fun hc => ?_)
    · have h := h.1 hc
      exact z_vret dX3_readClause_79 rfl h
    · have h := h.2 hc
      refine z_aload_n (pc' := 71) dX3_readClause_70 rfl rfl ?_
      obtain ⟨h1, h⟩ := h
      refine z_getR (ci := 4) (kf := 5) (pc' := 74) dX3_readClause_71 kX3_25 (Or.inl rfl) (by decide) (by decide) rfl rfl h1 ?_
      refine z_iload_n (pc' := 75) dX3_readClause_74 rfl rfl ?_
      refine z_iload_n (pc' := 76) dX3_readClause_75 rfl rfl ?_
      obtain ⟨h1, h⟩ := h
      obtain ⟨d1, b1, Qz, hm, hdd, hb, hkx, hk⟩ := h
      refine z_callV (Y := mX10_take) (n := 2) (as := [.int x1, .int x2]) (st := []) (pc' := 79) (ci := 11) (q := (zrv G9 q0 5)) hm dX3_readClause_76 kX3_92 vX10_take rfl rfl (by decide) rfl h1 hdd hb (Nat.le_of_ble_eq_true rfl) (fun r G11 hz => ?_) hkx
      obtain ⟨rfl, h⟩ := hk r G11 hz
      exact z_vret dX3_readClause_79 rfl h
def wp_X3_readFact_0 (E : ZE) (l : Launch) (d b : Nat) (G0 : ZG) (Q : ZQ) (k : Nat) (q0 : Nat) (G : ZG) : Prop :=
  zob G q0 4 ∧
  xcI E l mX3_numberAmong d [.ref q0, .ref (zp 1000 4)] G k (fun X G9 => Q (.inr X) G9) (fun y1 G2 k3 =>
  ((y1 < 0 →
    zob G2 q0 4 ∧
    xcV E l mX3_fail d [.ref q0] G2 k3 (fun X G9 => Q (.inr X) G9) (fun G4 k5 =>
    Q (.inl (some (.int 0))) G4)) ∧
  (¬ (y1 < 0) →
    zob G2 q0 4 ∧
    (zar G2 (zrv G2 q0 4) 0 ∨ zrd G2 (zrv G2 q0 4) .int) ∧
    ((y1 < (Int32.ofNat (zln G2 (zrv G2 q0 4))) →
      zob G2 q0 4 ∧
      (zar G2 (zrv G2 q0 4) 0 ∨ zrd G2 (zrv G2 q0 4) .int) ∧ vp_in y1 (zln G2 (zrv G2 q0 4)) ∧
      zob G2 q0 4 ∧
      xcV E l mX3_advance d [.ref q0] G2 k3 (fun X G9 => Q (.inr X) G9) (fun G6 k7 =>
      zob G6 q0 4 ∧
      xcI E l mX3_isSign d [.ref q0, .int 60] G6 k7 (fun X G9 => Q (.inr X) G9) (fun y8 G9 k10 =>
      ((¬ y8 = 0 →
        zW E l mX3_readFact d b G0 Q k10 67 [some (.ref q0), none, some (.int (ziv G2 (zrv G2 q0 4) y1.toNatClampNeg)), some (.int y8), none] [] G9) ∧
      (¬ (¬ y8 = 0) →
        zob G9 q0 4 ∧
        xcI E l mX3_isSign d [.ref q0, .int 62] G9 k10 (fun X G9 => Q (.inr X) G9) (fun y11 G12 k13 =>
        ((¬ y11 = 0 →
          zW E l mX3_readFact d b G0 Q k13 67 [some (.ref q0), none, some (.int (ziv G2 (zrv G2 q0 4) y1.toNatClampNeg)), some (.int y8), none] [] G12) ∧
        (¬ (¬ y11 = 0) →
          (((ziv G2 (zrv G2 q0 4) y1.toNatClampNeg) = 0 →
            Q (.inl (some (.int 0))) G12) ∧
          (¬ ((ziv G2 (zrv G2 q0 4) y1.toNatClampNeg) = 0) →
            Q (.inl (some (.int 1))) G12)))))))))) ∧
    (¬ (y1 < (Int32.ofNat (zln G2 (zrv G2 q0 4)))) →
      zob G2 q0 4 ∧
      xcV E l mX3_fail d [.ref q0] G2 k3 (fun X G9 => Q (.inr X) G9) (fun G14 k15 =>
      Q (.inl (some (.int 0))) G14))))))
theorem wpt_X3_readFact_0 {E : ZE} {l : Launch} {d b : Nat} {G0 : ZG} {Q : ZQ} {k : Nat} {q0 : Nat} {G : ZG} (h : wp_X3_readFact_0 E l d b G0 Q k q0 G) : zW E l mX3_readFact d b G0 Q k 0 [some (.ref q0), none, none, none, none] [] G := by
  unfold wp_X3_readFact_0 at h
  refine z_aload_n (pc' := 1) dX3_readFact_0 rfl rfl ?_
  refine z_ldcS (n := 4) (pc' := 3) (own := RX3) (tx := "age wanted valid abroad first renew lost second urgent") rfl (by decide) dX3_readFact_1 rfl ?_
  obtain ⟨h1, h⟩ := h
  obtain ⟨d1, b1, Qz, hm, hdd, hb, hkx, hk⟩ := h
  refine z_callV (Y := mX3_numberAmong) (n := 1) (as := [.ref (zp 1000 4)]) (st := []) (pc' := 6) (ci := 4) (q := q0) hm dX3_readFact_3 kX3_61 vX3_numberAmong rfl rfl (by decide) rfl h1 hdd hb (Nat.le_of_ble_eq_true rfl) (fun r G2 hz => ?_) hkx
  obtain ⟨y1, rfl, h⟩ := hk r G2 hz
  refine z_istore_n (pc' := 7) dX3_readFact_6 (by decide) rfl ?_
  refine z_iload_n (pc' := 8) dX3_readFact_7 rfl rfl ?_
  refine z_if_lt (pt := 20) (pc' := 11) dX3_readFact_8 (by decide) rfl (fun hc => ?_) (fun hc => ?_)
  · have h := h.1 hc
    refine z_aload_n (pc' := 21) dX3_readFact_20 rfl rfl ?_
    obtain ⟨h1, h⟩ := h
    obtain ⟨d1, b1, Qz, hm, hdd, hb, hkx, hk⟩ := h
    refine z_callV (Y := mX3_fail) (n := 0) (as := []) (st := []) (pc' := 24) (ci := 4) (q := q0) hm dX3_readFact_21 kX3_54 vX3_fail rfl rfl (by decide) rfl h1 hdd hb (Nat.le_of_ble_eq_true rfl) (fun r G4 hz => ?_) hkx
    obtain ⟨rfl, h⟩ := hk r G4 hz
    refine z_iconst (x := 0) (pc' := 25) dX3_readFact_24 (by decide) rfl ?_
    exact z_zret (ty := .boolean) dX3_readFact_25 rfl (by decide) h
  · have h := h.2 hc
    refine z_iload_n (pc' := 12) dX3_readFact_11 rfl rfl ?_
    refine z_aload_n (pc' := 13) dX3_readFact_12 rfl rfl ?_
    obtain ⟨h1, h⟩ := h
    refine z_getR (ci := 4) (kf := 4) (pc' := 16) dX3_readFact_13 kX3_18 (Or.inl rfl) (by decide) (by decide) rfl rfl h1 ?_
    obtain ⟨h1, h⟩ := h
    refine z_alen (pc' := 17) dX3_readFact_16 rfl (h1.imp (fun h => ⟨0, by decide, h⟩) (fun h => ⟨_, h⟩)) rfl ?_
    refine z_icmp_lt (pt := 26) (pc' := 20) dX3_readFact_17 (by decide) rfl (fun hc => ?_) (fun hc => ?_)
    · have h := h.1 hc
      refine z_aload_n (pc' := 27) dX3_readFact_26 rfl rfl ?_
      obtain ⟨h1, h⟩ := h
      refine z_getR (ci := 4) (kf := 4) (pc' := 30) dX3_readFact_27 kX3_18 (Or.inl rfl) (by decide) (by decide) rfl rfl h1 ?_
      refine z_iload_n (pc' := 31) dX3_readFact_30 rfl rfl ?_
      obtain ⟨h1, h2, h⟩ := h
      refine z_iald (pc' := 32) dX3_readFact_31 rfl h1 h2 ?_
      refine z_istore_n (pc' := 33) dX3_readFact_32 (by decide) rfl ?_
      refine z_aload_n (pc' := 34) dX3_readFact_33 rfl rfl ?_
      obtain ⟨h1, h⟩ := h
      obtain ⟨d1, b1, Qz, hm, hdd, hb, hkx, hk⟩ := h
      refine z_callV (Y := mX3_advance) (n := 0) (as := []) (st := []) (pc' := 37) (ci := 4) (q := q0) hm dX3_readFact_34 kX3_44 vX3_advance rfl rfl (by decide) rfl h1 hdd hb (Nat.le_of_ble_eq_true rfl) (fun r G6 hz => ?_) hkx
      obtain ⟨rfl, h⟩ := hk r G6 hz
      refine z_aload_n (pc' := 38) dX3_readFact_37 rfl rfl ?_
      refine z_bipush (x := 60) (pc' := 40) dX3_readFact_38 (by decide) rfl ?_
      obtain ⟨h1, h⟩ := h
      obtain ⟨d1, b1, Qz, hm, hdd, hb, hkx, hk⟩ := h
      refine z_callV (Y := mX3_isSign) (n := 1) (as := [.int 60]) (st := []) (pc' := 43) (ci := 4) (q := q0) hm dX3_readFact_40 kX3_50 vX3_isSign rfl rfl (by decide) rfl h1 hdd hb (Nat.le_of_ble_eq_true rfl) (fun r G9 hz => ?_) hkx
      obtain ⟨y8, rfl, h⟩ := hk r G9 hz
      refine z_istore_n (pc' := 44) dX3_readFact_43 (by decide) rfl ?_
      refine z_iload_n (pc' := 45) dX3_readFact_44 rfl rfl ?_
      refine z_if_ne (pt := 67) (pc' := 48) dX3_readFact_45 (by decide) rfl (fun hc => ?_) (fun hc => ?_)
      · have h := h.1 hc
        exact z_dr (ls' := [some (.ref q0), none, some (.int (ziv G2 (zrv G2 q0 4) y1.toNatClampNeg)), some (.int y8), none]) ⟨rfl, rfl, rfl, trivial⟩ h
      · have h := h.2 hc
        refine z_aload_n (pc' := 49) dX3_readFact_48 rfl rfl ?_
        refine z_bipush (x := 62) (pc' := 51) dX3_readFact_49 (by decide) rfl ?_
        obtain ⟨h1, h⟩ := h
        obtain ⟨d1, b1, Qz, hm, hdd, hb, hkx, hk⟩ := h
        refine z_callV (Y := mX3_isSign) (n := 1) (as := [.int 62]) (st := []) (pc' := 54) (ci := 4) (q := q0) hm dX3_readFact_51 kX3_50 vX3_isSign rfl rfl (by decide) rfl h1 hdd hb (Nat.le_of_ble_eq_true rfl) (fun r G12 hz => ?_) hkx
        obtain ⟨y11, rfl, h⟩ := hk r G12 hz
        refine z_if_ne (pt := 67) (pc' := 57) dX3_readFact_54 (by decide) rfl (fun hc => ?_) (fun hc => ?_)
        · have h := h.1 hc
          exact z_dr (ls' := [some (.ref q0), none, some (.int (ziv G2 (zrv G2 q0 4) y1.toNatClampNeg)), some (.int y8), none]) ⟨rfl, rfl, rfl, trivial⟩ h
        · have h := h.2 hc
          refine z_iload_n (pc' := 58) dX3_readFact_57 rfl rfl ?_
          refine z_if_eq (pt := 65) (pc' := 61) dX3_readFact_58 (by decide) rfl (fun hc => ?_) (fun hc => ?_)
          · have h := h.1 hc
            refine z_iconst (x := 0) (pc' := 66) dX3_readFact_65 (by decide) rfl ?_
            exact z_zret (ty := .boolean) dX3_readFact_66 rfl (by decide) h
          · have h := h.2 hc
            refine z_iconst (x := 1) (pc' := 62) dX3_readFact_61 (by decide) rfl ?_
            refine z_goto (pc' := 66) dX3_readFact_62 (by decide) ?_
            exact z_zret (ty := .boolean) dX3_readFact_66 rfl (by decide) h
    · have h := h.2 hc
      refine z_aload_n (pc' := 21) dX3_readFact_20 rfl rfl ?_
      obtain ⟨h1, h⟩ := h
      obtain ⟨d1, b1, Qz, hm, hdd, hb, hkx, hk⟩ := h
      refine z_callV (Y := mX3_fail) (n := 0) (as := []) (st := []) (pc' := 24) (ci := 4) (q := q0) hm dX3_readFact_21 kX3_54 vX3_fail rfl rfl (by decide) rfl h1 hdd hb (Nat.le_of_ble_eq_true rfl) (fun r G14 hz => ?_) hkx
      obtain ⟨rfl, h⟩ := hk r G14 hz
      refine z_iconst (x := 0) (pc' := 25) dX3_readFact_24 (by decide) rfl ?_
      exact z_zret (ty := .boolean) dX3_readFact_25 rfl (by decide) h
def wp_X3_readFact_67 (E : ZE) (l : Launch) (d b : Nat) (G0 : ZG) (Q : ZQ) (k : Nat) (q0 : Nat) (x2 : Int32) (x3 : Int32) (G : ZG) : Prop :=
  zob G q0 4 ∧
  xcV E l mX3_advance d [.ref q0] G k (fun X G9 => Q (.inr X) G9) (fun G1 k2 =>
  zob G1 q0 4 ∧
  xcI E l mX3_readNumber d [.ref q0] G1 k2 (fun X G9 => Q (.inr X) G9) (fun y3 G4 k5 =>
  ((x3 = 0 →
    ((x2 ≤ y3 →
      Q (.inl (some (.int 0))) G4) ∧
    (¬ (x2 ≤ y3) →
      Q (.inl (some (.int 1))) G4))) ∧
  (¬ (x3 = 0) →
    ((y3 ≤ x2 →
      Q (.inl (some (.int 0))) G4) ∧
    (¬ (y3 ≤ x2) →
      Q (.inl (some (.int 1))) G4))))))
theorem wpt_X3_readFact_67 {E : ZE} {l : Launch} {d b : Nat} {G0 : ZG} {Q : ZQ} {k : Nat} {q0 : Nat} {x2 : Int32} {x3 : Int32} {G : ZG} (h : wp_X3_readFact_67 E l d b G0 Q k q0 x2 x3 G) : zW E l mX3_readFact d b G0 Q k 67 [some (.ref q0), none, some (.int x2), some (.int x3), none] [] G := by
  unfold wp_X3_readFact_67 at h
  refine z_aload_n (pc' := 68) dX3_readFact_67 rfl rfl ?_
  obtain ⟨h1, h⟩ := h
  obtain ⟨d1, b1, Qz, hm, hdd, hb, hkx, hk⟩ := h
  refine z_callV (Y := mX3_advance) (n := 0) (as := []) (st := []) (pc' := 71) (ci := 4) (q := q0) hm dX3_readFact_68 kX3_44 vX3_advance rfl rfl (by decide) rfl h1 hdd hb (Nat.le_of_ble_eq_true rfl) (fun r G1 hz => ?_) hkx
  obtain ⟨rfl, h⟩ := hk r G1 hz
  refine z_aload_n (pc' := 72) dX3_readFact_71 rfl rfl ?_
  obtain ⟨h1, h⟩ := h
  obtain ⟨d1, b1, Qz, hm, hdd, hb, hkx, hk⟩ := h
  refine z_callV (Y := mX3_readNumber) (n := 0) (as := []) (st := []) (pc' := 75) (ci := 4) (q := q0) hm dX3_readFact_72 kX3_80 vX3_readNumber rfl rfl (by decide) rfl h1 hdd hb (Nat.le_of_ble_eq_true rfl) (fun r G4 hz => ?_) hkx
  obtain ⟨y3, rfl, h⟩ := hk r G4 hz
  refine z_istore (pc' := 77) dX3_readFact_75 (by decide) rfl ?_
  refine z_iload_n (pc' := 78) dX3_readFact_77 rfl rfl ?_
  refine z_if_eq (pt := 95) (pc' := 81) dX3_readFact_78 (by decide) rfl (fun hc => ?_) (fun hc => ?_)
  · have h := h.1 hc
    refine z_iload_n (pc' := 96) dX3_readFact_95 rfl rfl ?_
    refine z_iload (pc' := 98) dX3_readFact_96 rfl rfl ?_
    refine z_icmp_le (pt := 105) (pc' := 101) dX3_readFact_98 (by decide) rfl (fun hc => ?_) (fun hc => ?_)
    · have h := h.1 hc
      refine z_iconst (x := 0) (pc' := 106) dX3_readFact_105 (by decide) rfl ?_
      exact z_zret (ty := .boolean) dX3_readFact_106 rfl (by decide) h
    · have h := h.2 hc
      refine z_iconst (x := 1) (pc' := 102) dX3_readFact_101 (by decide) rfl ?_
      refine z_goto (pc' := 106) dX3_readFact_102 (by decide) ?_
      exact z_zret (ty := .boolean) dX3_readFact_106 rfl (by decide) h
  · have h := h.2 hc
    refine z_iload_n (pc' := 82) dX3_readFact_81 rfl rfl ?_
    refine z_iload (pc' := 84) dX3_readFact_82 rfl rfl ?_
    refine z_icmp_ge (pt := 91) (pc' := 87) dX3_readFact_84 (by decide) rfl (fun hc => ?_) (fun hc => ?_)
    · have h := h.1 hc
      refine z_iconst (x := 0) (pc' := 92) dX3_readFact_91 (by decide) rfl ?_
      refine z_goto (pc' := 106) dX3_readFact_92 (by decide) ?_
      exact z_zret (ty := .boolean) dX3_readFact_106 rfl (by decide) h
    · have h := h.2 hc
      refine z_iconst (x := 1) (pc' := 88) dX3_readFact_87 (by decide) rfl ?_
      refine z_goto (pc' := 106) dX3_readFact_88 (by decide) ?_
      exact z_zret (ty := .boolean) dX3_readFact_106 rfl (by decide) h
def wp_X3_readItem_0 (E : ZE) (l : Launch) (d b : Nat) (G0 : ZG) (Q : ZQ) (k : Nat) (q0 : Nat) (G : ZG) : Prop :=
  zob G q0 4 ∧
  xcI E l mX3_numberAmong d [.ref q0, .ref (zp 1000 1)] G k (fun X G9 => Q (.inr X) G9) (fun y1 G2 k3 =>
  ((¬ y1 = (-1) →
    zob G2 q0 4 ∧
    xcV E l mX3_advance d [.ref q0] G2 k3 (fun X G9 => Q (.inr X) G9) (fun G4 k5 =>
    Q (.inl (some (.int (1 <<< (y1 &&& 31))))) G4)) ∧
  (¬ (¬ y1 = (-1)) →
    zob G2 q0 4 ∧
    xcV E l mX3_fail d [.ref q0] G2 k3 (fun X G9 => Q (.inr X) G9) (fun G6 k7 =>
    Q (.inl (some (.int 0))) G6))))
theorem wpt_X3_readItem_0 {E : ZE} {l : Launch} {d b : Nat} {G0 : ZG} {Q : ZQ} {k : Nat} {q0 : Nat} {G : ZG} (h : wp_X3_readItem_0 E l d b G0 Q k q0 G) : zW E l mX3_readItem d b G0 Q k 0 [some (.ref q0), none] [] G := by
  unfold wp_X3_readItem_0 at h
  refine z_aload_n (pc' := 1) dX3_readItem_0 rfl rfl ?_
  refine z_ldcS (n := 1) (pc' := 3) (own := RX3) (tx := "deed photo consent both oldbook report ticket change") rfl (by decide) dX3_readItem_1 rfl ?_
  obtain ⟨h1, h⟩ := h
  obtain ⟨d1, b1, Qz, hm, hdd, hb, hkx, hk⟩ := h
  refine z_callV (Y := mX3_numberAmong) (n := 1) (as := [.ref (zp 1000 1)]) (st := []) (pc' := 6) (ci := 4) (q := q0) hm dX3_readItem_3 kX3_61 vX3_numberAmong rfl rfl (by decide) rfl h1 hdd hb (Nat.le_of_ble_eq_true rfl) (fun r G2 hz => ?_) hkx
  obtain ⟨y1, rfl, h⟩ := hk r G2 hz
  refine z_istore_n (pc' := 7) dX3_readItem_6 (by decide) rfl ?_
  refine z_iload_n (pc' := 8) dX3_readItem_7 rfl rfl ?_
  refine z_iconst (x := (-1)) (pc' := 9) dX3_readItem_8 (by decide) rfl ?_
  refine z_icmp_ne (pt := 18) (pc' := 12) dX3_readItem_9 (by decide) rfl (fun hc => ?_) (fun hc => ?_)
  · have h := h.1 hc
    refine z_aload_n (pc' := 19) dX3_readItem_18 rfl rfl ?_
    obtain ⟨h1, h⟩ := h
    obtain ⟨d1, b1, Qz, hm, hdd, hb, hkx, hk⟩ := h
    refine z_callV (Y := mX3_advance) (n := 0) (as := []) (st := []) (pc' := 22) (ci := 4) (q := q0) hm dX3_readItem_19 kX3_44 vX3_advance rfl rfl (by decide) rfl h1 hdd hb (Nat.le_of_ble_eq_true rfl) (fun r G4 hz => ?_) hkx
    obtain ⟨rfl, h⟩ := hk r G4 hz
    refine z_iconst (x := 1) (pc' := 23) dX3_readItem_22 (by decide) rfl ?_
    refine z_iload_n (pc' := 24) dX3_readItem_23 rfl rfl ?_
    refine z_ishl (pc' := 25) dX3_readItem_24 rfl rfl ?_
    exact z_iret dX3_readItem_25 rfl h
  · have h := h.2 hc
    refine z_aload_n (pc' := 13) dX3_readItem_12 rfl rfl ?_
    obtain ⟨h1, h⟩ := h
    obtain ⟨d1, b1, Qz, hm, hdd, hb, hkx, hk⟩ := h
    refine z_callV (Y := mX3_fail) (n := 0) (as := []) (st := []) (pc' := 16) (ci := 4) (q := q0) hm dX3_readItem_13 kX3_54 vX3_fail rfl rfl (by decide) rfl h1 hdd hb (Nat.le_of_ble_eq_true rfl) (fun r G6 hz => ?_) hkx
    obtain ⟨rfl, h⟩ := hk r G6 hz
    refine z_iconst (x := 0) (pc' := 17) dX3_readItem_16 (by decide) rfl ?_
    exact z_iret dX3_readItem_17 rfl h
def wp_X3_readNumber_0 (E : ZE) (l : Launch) (d b : Nat) (G0 : ZG) (Q : ZQ) (k : Nat) (q0 : Nat) (G : ZG) : Prop :=
  zob G q0 4 ∧
  ((¬ (ziv G q0 6) = 2 →
    zob G q0 4 ∧
    xcV E l mX3_fail d [.ref q0] G k (fun X G9 => Q (.inr X) G9) (fun G1 k2 =>
    Q (.inl (some (.int 0))) G1)) ∧
  (¬ (¬ (ziv G q0 6) = 2) →
    zob G q0 4 ∧
    zob G q0 4 ∧
    ((((ziv G q0 8) - (ziv G q0 7)) ≤ 4 →
      zob G q0 4 ∧
      zW E l mX3_readNumber d b G0 Q k 34 [some (.ref q0), some (.int 0), some (.int (ziv G q0 7))] [] G) ∧
    (¬ (((ziv G q0 8) - (ziv G q0 7)) ≤ 4) →
      zob G q0 4 ∧
      xcV E l mX3_fail d [.ref q0] G k (fun X G9 => Q (.inr X) G9) (fun G3 k4 =>
      Q (.inl (some (.int 0))) G3)))))
theorem wpt_X3_readNumber_0 {E : ZE} {l : Launch} {d b : Nat} {G0 : ZG} {Q : ZQ} {k : Nat} {q0 : Nat} {G : ZG} (h : wp_X3_readNumber_0 E l d b G0 Q k q0 G) : zW E l mX3_readNumber d b G0 Q k 0 [some (.ref q0), none, none] [] G := by
  unfold wp_X3_readNumber_0 at h
  refine z_aload_n (pc' := 1) dX3_readNumber_0 rfl rfl ?_
  obtain ⟨h1, h⟩ := h
  refine z_getI (ci := 4) (kf := 6) (pc' := 4) dX3_readNumber_1 kX3_29 (Or.inl rfl) (by decide) (by decide) rfl rfl h1 ?_
  refine z_iconst (x := 2) (pc' := 5) dX3_readNumber_4 (by decide) rfl ?_
  refine z_icmp_ne (pt := 21) (pc' := 8) dX3_readNumber_5 (by decide) rfl (fun hc => ?_) (fun hc => ?_)
  · have h := h.1 hc
    refine z_aload_n (pc' := 22) dX3_readNumber_21 rfl rfl ?_
    obtain ⟨h1, h⟩ := h
    obtain ⟨d1, b1, Qz, hm, hdd, hb, hkx, hk⟩ := h
    refine z_callV (Y := mX3_fail) (n := 0) (as := []) (st := []) (pc' := 25) (ci := 4) (q := q0) hm dX3_readNumber_22 kX3_54 vX3_fail rfl rfl (by decide) rfl h1 hdd hb (Nat.le_of_ble_eq_true rfl) (fun r G1 hz => ?_) hkx
    obtain ⟨rfl, h⟩ := hk r G1 hz
    refine z_iconst (x := 0) (pc' := 26) dX3_readNumber_25 (by decide) rfl ?_
    exact z_iret dX3_readNumber_26 rfl h
  · have h := h.2 hc
    refine z_aload_n (pc' := 9) dX3_readNumber_8 rfl rfl ?_
    obtain ⟨h1, h⟩ := h
    refine z_getI (ci := 4) (kf := 8) (pc' := 12) dX3_readNumber_9 kX3_35 (Or.inl rfl) (by decide) (by decide) rfl rfl h1 ?_
    refine z_aload_n (pc' := 13) dX3_readNumber_12 rfl rfl ?_
    obtain ⟨h1, h⟩ := h
    refine z_getI (ci := 4) (kf := 7) (pc' := 16) dX3_readNumber_13 kX3_32 (Or.inl rfl) (by decide) (by decide) rfl rfl h1 ?_
    refine z_isub (pc' := 17) dX3_readNumber_16 rfl rfl ?_
    refine z_iconst (x := 4) (pc' := 18) dX3_readNumber_17 (by decide) rfl ?_
    refine z_icmp_le (pt := 27) (pc' := 21) dX3_readNumber_18 (by decide) rfl (fun hc => ?_) (fun hc => ?_)
    · have h := h.1 hc
      refine z_iconst (x := 0) (pc' := 28) dX3_readNumber_27 (by decide) rfl ?_
      refine z_istore_n (pc' := 29) dX3_readNumber_28 (by decide) rfl ?_
      refine z_aload_n (pc' := 30) dX3_readNumber_29 rfl rfl ?_
      obtain ⟨h1, h⟩ := h
      refine z_getI (ci := 4) (kf := 7) (pc' := 33) dX3_readNumber_30 kX3_32 (Or.inl rfl) (by decide) (by decide) rfl rfl h1 ?_
      refine z_istore_n (pc' := 34) dX3_readNumber_33 (by decide) rfl ?_
      exact z_dr (ls' := [some (.ref q0), some (.int 0), some (.int (ziv G q0 7))]) ⟨rfl, rfl, rfl, trivial⟩ h
    · have h := h.2 hc
      refine z_aload_n (pc' := 22) dX3_readNumber_21 rfl rfl ?_
      obtain ⟨h1, h⟩ := h
      obtain ⟨d1, b1, Qz, hm, hdd, hb, hkx, hk⟩ := h
      refine z_callV (Y := mX3_fail) (n := 0) (as := []) (st := []) (pc' := 25) (ci := 4) (q := q0) hm dX3_readNumber_22 kX3_54 vX3_fail rfl rfl (by decide) rfl h1 hdd hb (Nat.le_of_ble_eq_true rfl) (fun r G3 hz => ?_) hkx
      obtain ⟨rfl, h⟩ := hk r G3 hz
      refine z_iconst (x := 0) (pc' := 26) dX3_readNumber_25 (by decide) rfl ?_
      exact z_iret dX3_readNumber_26 rfl h
def wp_X3_readNumber_34 (E : ZE) (l : Launch) (d b : Nat) (G0 : ZG) (Q : ZQ) (k : Nat) (q0 : Nat) (x1 : Int32) (x2 : Int32) (G : ZG) : Prop :=
  zob G q0 4 ∧
  (((ziv G q0 8) ≤ x2 →
    zob G q0 4 ∧
    xcV E l mX3_advance d [.ref q0] G k (fun X G9 => Q (.inr X) G9) (fun G1 k2 =>
    Q (.inl (some (.int x1))) G1)) ∧
  (¬ ((ziv G q0 8) ≤ x2) →
    zob G q0 4 ∧
    (zar G (zrv G q0 3) 0 ∨ zrd G (zrv G q0 3) .int) ∧
    (((Int32.ofNat (zln G (zrv G q0 3))) ≤ x2 →
      zob G q0 4 ∧
      xcV E l mX3_advance d [.ref q0] G k (fun X G9 => Q (.inr X) G9) (fun G3 k4 =>
      Q (.inl (some (.int x1))) G3)) ∧
    (¬ ((Int32.ofNat (zln G (zrv G q0 3))) ≤ x2) →
      zob G q0 4 ∧
      (zar G (zrv G q0 3) 0 ∨ zrd G (zrv G q0 3) .int) ∧ vp_in x2 (zln G (zrv G q0 3)) ∧
      zW E l mX3_readNumber d b G0 Q k 34 [some (.ref q0), some (.int (((x1 * 10) + (ziv G (zrv G q0 3) x2.toNatClampNeg)) - 48)), some (.int (x2 + 1))] [] G))))
theorem wpt_X3_readNumber_34 {E : ZE} {l : Launch} {d b : Nat} {G0 : ZG} {Q : ZQ} {k : Nat} {q0 : Nat} {x1 : Int32} {x2 : Int32} {G : ZG} (h : wp_X3_readNumber_34 E l d b G0 Q k q0 x1 x2 G) : zW E l mX3_readNumber d b G0 Q k 34 [some (.ref q0), some (.int x1), some (.int x2)] [] G := by
  unfold wp_X3_readNumber_34 at h
  refine z_iload_n (pc' := 35) dX3_readNumber_34 rfl rfl ?_
  refine z_aload_n (pc' := 36) dX3_readNumber_35 rfl rfl ?_
  obtain ⟨h1, h⟩ := h
  refine z_getI (ci := 4) (kf := 8) (pc' := 39) dX3_readNumber_36 kX3_35 (Or.inl rfl) (by decide) (by decide) rfl rfl h1 ?_
  refine z_icmp_ge (pt := 72) (pc' := 42) dX3_readNumber_39 (by decide) rfl (fun hc => ?_) (fun hc => ?_)
  · have h := h.1 hc
    refine z_aload_n (pc' := 73) dX3_readNumber_72 rfl rfl ?_
    obtain ⟨h1, h⟩ := h
    obtain ⟨d1, b1, Qz, hm, hdd, hb, hkx, hk⟩ := h
    refine z_callV (Y := mX3_advance) (n := 0) (as := []) (st := []) (pc' := 76) (ci := 4) (q := q0) hm dX3_readNumber_73 kX3_44 vX3_advance rfl rfl (by decide) rfl h1 hdd hb (Nat.le_of_ble_eq_true rfl) (fun r G1 hz => ?_) hkx
    obtain ⟨rfl, h⟩ := hk r G1 hz
    refine z_iload_n (pc' := 77) dX3_readNumber_76 rfl rfl ?_
    exact z_iret dX3_readNumber_77 rfl h
  · have h := h.2 hc
    refine z_iload_n (pc' := 43) dX3_readNumber_42 rfl rfl ?_
    refine z_aload_n (pc' := 44) dX3_readNumber_43 rfl rfl ?_
    obtain ⟨h1, h⟩ := h
    refine z_getR (ci := 4) (kf := 3) (pc' := 47) dX3_readNumber_44 kX3_41 (Or.inl rfl) (by decide) (by decide) rfl rfl h1 ?_
    obtain ⟨h1, h⟩ := h
    refine z_alen (pc' := 48) dX3_readNumber_47 rfl (h1.imp (fun h => ⟨0, by decide, h⟩) (fun h => ⟨_, h⟩)) rfl ?_
    refine z_icmp_ge (pt := 72) (pc' := 51) dX3_readNumber_48 (by decide) rfl (fun hc => ?_) (fun hc => ?_)
    · have h := h.1 hc
      refine z_aload_n (pc' := 73) dX3_readNumber_72 rfl rfl ?_
      obtain ⟨h1, h⟩ := h
      obtain ⟨d1, b1, Qz, hm, hdd, hb, hkx, hk⟩ := h
      refine z_callV (Y := mX3_advance) (n := 0) (as := []) (st := []) (pc' := 76) (ci := 4) (q := q0) hm dX3_readNumber_73 kX3_44 vX3_advance rfl rfl (by decide) rfl h1 hdd hb (Nat.le_of_ble_eq_true rfl) (fun r G3 hz => ?_) hkx
      obtain ⟨rfl, h⟩ := hk r G3 hz
      refine z_iload_n (pc' := 77) dX3_readNumber_76 rfl rfl ?_
      exact z_iret dX3_readNumber_77 rfl h
    · have h := h.2 hc
      refine z_iload_n (pc' := 52) dX3_readNumber_51 rfl rfl ?_
      refine z_bipush (x := 10) (pc' := 54) dX3_readNumber_52 (by decide) rfl ?_
      refine z_imul (pc' := 55) dX3_readNumber_54 rfl rfl ?_
      refine z_aload_n (pc' := 56) dX3_readNumber_55 rfl rfl ?_
      obtain ⟨h1, h⟩ := h
      refine z_getR (ci := 4) (kf := 3) (pc' := 59) dX3_readNumber_56 kX3_41 (Or.inl rfl) (by decide) (by decide) rfl rfl h1 ?_
      refine z_iload_n (pc' := 60) dX3_readNumber_59 rfl rfl ?_
      obtain ⟨h1, h2, h⟩ := h
      refine z_iald (pc' := 61) dX3_readNumber_60 rfl h1 h2 ?_
      refine z_iadd (pc' := 62) dX3_readNumber_61 rfl rfl ?_
      refine z_bipush (x := 48) (pc' := 64) dX3_readNumber_62 (by decide) rfl ?_
      refine z_isub (pc' := 65) dX3_readNumber_64 rfl rfl ?_
      refine z_istore_n (pc' := 66) dX3_readNumber_65 (by decide) rfl ?_
      refine z_iinc (y := x2 + 1) (pc' := 69) dX3_readNumber_66 rfl (zinc_1 _) (by decide) rfl ?_
      refine z_goto (pc' := 34) dX3_readNumber_69 (by decide) ?_
      exact z_dr (ls' := [some (.ref q0), some (.int (((x1 * 10) + (ziv G (zrv G q0 3) x2.toNatClampNeg)) - 48)), some (.int (x2 + 1))]) ⟨rfl, rfl, rfl, trivial⟩ h
def wp_X3_thingOf_0 (E : ZE) (l : Launch) (d b : Nat) (G0 : ZG) (Q : ZQ) (k : Nat) (x0 : Int32) (G : ZG) : Prop :=
  ((x0 < 97 →
    ((x0 < 48 →
      Q (.inl (some (.int 3))) G) ∧
    (¬ (x0 < 48) →
      ((57 < x0 →
        Q (.inl (some (.int 3))) G) ∧
      (¬ (57 < x0) →
        Q (.inl (some (.int 2))) G))))) ∧
  (¬ (x0 < 97) →
    ((122 < x0 →
      ((x0 < 48 →
        Q (.inl (some (.int 3))) G) ∧
      (¬ (x0 < 48) →
        ((57 < x0 →
          Q (.inl (some (.int 3))) G) ∧
        (¬ (57 < x0) →
          Q (.inl (some (.int 2))) G))))) ∧
    (¬ (122 < x0) →
      Q (.inl (some (.int 1))) G))))
theorem wpt_X3_thingOf_0 {E : ZE} {l : Launch} {d b : Nat} {G0 : ZG} {Q : ZQ} {k : Nat} {x0 : Int32} {G : ZG} (h : wp_X3_thingOf_0 E l d b G0 Q k x0 G) : zW E l mX3_thingOf d b G0 Q k 0 [some (.int x0)] [] G := by
  unfold wp_X3_thingOf_0 at h
  refine z_iload_n (pc' := 1) dX3_thingOf_0 rfl rfl ?_
  refine z_bipush (x := 97) (pc' := 3) dX3_thingOf_1 (by decide) rfl ?_
  refine z_icmp_lt (pt := 14) (pc' := 6) dX3_thingOf_3 (by decide) rfl (fun hc => ?_) (fun hc => ?_)
  · have h := h.1 hc
    refine z_iload_n (pc' := 15) dX3_thingOf_14 rfl rfl ?_
    refine z_bipush (x := 48) (pc' := 17) dX3_thingOf_15 (by decide) rfl ?_
    refine z_icmp_lt (pt := 30) (pc' := 20) dX3_thingOf_17 (by decide) rfl (fun hc => ?_) (fun hc => ?_)
    · have h := h.1 hc
      refine z_iconst (x := 3) (pc' := 31) dX3_thingOf_30 (by decide) rfl ?_
      exact z_iret dX3_thingOf_31 rfl h
    · have h := h.2 hc
      refine z_iload_n (pc' := 21) dX3_thingOf_20 rfl rfl ?_
      refine z_bipush (x := 57) (pc' := 23) dX3_thingOf_21 (by decide) rfl ?_
      refine z_icmp_gt (pt := 30) (pc' := 26) dX3_thingOf_23 (by decide) rfl (fun hc => ?_) (fun hc => ?_)
      · have h := h.1 hc
        refine z_iconst (x := 3) (pc' := 31) dX3_thingOf_30 (by decide) rfl ?_
        exact z_iret dX3_thingOf_31 rfl h
      · have h := h.2 hc
        refine z_iconst (x := 2) (pc' := 27) dX3_thingOf_26 (by decide) rfl ?_
        refine z_goto (pc' := 31) dX3_thingOf_27 (by decide) ?_
        exact z_iret dX3_thingOf_31 rfl h
  · have h := h.2 hc
    refine z_iload_n (pc' := 7) dX3_thingOf_6 rfl rfl ?_
    refine z_bipush (x := 122) (pc' := 9) dX3_thingOf_7 (by decide) rfl ?_
    refine z_icmp_gt (pt := 14) (pc' := 12) dX3_thingOf_9 (by decide) rfl (fun hc => ?_) (fun hc => ?_)
    · have h := h.1 hc
      refine z_iload_n (pc' := 15) dX3_thingOf_14 rfl rfl ?_
      refine z_bipush (x := 48) (pc' := 17) dX3_thingOf_15 (by decide) rfl ?_
      refine z_icmp_lt (pt := 30) (pc' := 20) dX3_thingOf_17 (by decide) rfl (fun hc => ?_) (fun hc => ?_)
      · have h := h.1 hc
        refine z_iconst (x := 3) (pc' := 31) dX3_thingOf_30 (by decide) rfl ?_
        exact z_iret dX3_thingOf_31 rfl h
      · have h := h.2 hc
        refine z_iload_n (pc' := 21) dX3_thingOf_20 rfl rfl ?_
        refine z_bipush (x := 57) (pc' := 23) dX3_thingOf_21 (by decide) rfl ?_
        refine z_icmp_gt (pt := 30) (pc' := 26) dX3_thingOf_23 (by decide) rfl (fun hc => ?_) (fun hc => ?_)
        · have h := h.1 hc
          refine z_iconst (x := 3) (pc' := 31) dX3_thingOf_30 (by decide) rfl ?_
          exact z_iret dX3_thingOf_31 rfl h
        · have h := h.2 hc
          refine z_iconst (x := 2) (pc' := 27) dX3_thingOf_26 (by decide) rfl ?_
          refine z_goto (pc' := 31) dX3_thingOf_27 (by decide) ?_
          exact z_iret dX3_thingOf_31 rfl h
    · have h := h.2 hc
      refine z_iconst (x := 1) (pc' := 13) dX3_thingOf_12 (by decide) rfl ?_
      exact z_iret dX3_thingOf_13 rfl h
def wp_X3_verdictOn_0 (E : ZE) (l : Launch) (d b : Nat) (G0 : ZG) (Q : ZQ) (k : Nat) (q0 : Nat) (q1 : Nat) (G : ZG) : Prop :=
  zob G q0 4 ∧
  ∀ G1, G1 = zsr G q0 4 q1 →
  7 ≤ k ∧ ∃ t2, t2 ≠ 0 ∧ t2 < 448 ∧ t2 / 32 = 11 ∧
  ∀ q_3, q_3 = zp t2 (zcn G1 t2) → ∀ G4, G4 = znw G1 t2 0 → ∀ k5, k5 = k - 7 →
  zal G4 q_3 ∧
  xcV E l mX10_init d [.ref q_3] G4 k5 (fun X G9 => Q (.inr X) G9) (fun G6 k7 =>
  zob G6 q0 4 ∧
  ∀ G8, G8 = zsr G6 q0 5 q_3 →
  zob G8 q0 4 ∧
  ∀ G9, G9 = zsi G8 q0 1 0 →
  zob G9 q0 4 ∧
  ∀ G10, G10 = zsi G9 q0 2 (-1) →
  zob G10 q0 4 ∧
  ∀ G11, G11 = zsi G10 q0 8 0 →
  zob G11 q0 4 ∧
  xcV E l mX3_advance d [.ref q0] G11 k7 (fun X G9 => Q (.inr X) G9) (fun G12 k13 =>
  zob G12 q0 4 ∧
  (((ziv G12 q0 6) = 0 →
    zW E l mX3_verdictOn d b G0 Q k13 50 [some (.ref q0), none, some (.int 0), some (.int 0)] [] G12) ∧
  (¬ ((ziv G12 q0 6) = 0) →
    zW E l mX3_verdictOn d b G0 Q k13 50 [some (.ref q0), none, some (.int 1), some (.int 0)] [] G12))))
theorem wpt_X3_verdictOn_0 {E : ZE} {l : Launch} {d b : Nat} {G0 : ZG} {Q : ZQ} {k : Nat} {q0 : Nat} {q1 : Nat} {G : ZG} (h : wp_X3_verdictOn_0 E l d b G0 Q k q0 q1 G) : zW E l mX3_verdictOn d b G0 Q k 0 [some (.ref q0), some (.ref q1), none, none] [] G := by
  unfold wp_X3_verdictOn_0 at h
  refine z_aload_n (pc' := 1) dX3_verdictOn_0 rfl rfl ?_
  refine z_aload_n (pc' := 2) dX3_verdictOn_1 rfl rfl ?_
  obtain ⟨h1, h⟩ := h
  obtain ⟨G1, hG⟩ : ∃ z, z = zsr G q0 4 q1 := ⟨_, rfl⟩
  have h := h _ hG
  refine z_putR (ci := 4) (kf := 4) (pc' := 5) dX3_verdictOn_2 kX3_18 (Or.inl rfl) (by decide) (by decide) rfl (Or.inl rfl) rfl h1 ?_
  refine z_st hG ?_
  refine z_aload_n (pc' := 6) dX3_verdictOn_5 rfl rfl ?_
  obtain ⟨h1, t2, h2, h3, h4, h⟩ := h
  obtain ⟨q_3, hq⟩ : ∃ z, z = zp t2 (zcn G1 t2) := ⟨_, rfl⟩
  obtain ⟨G4, hG⟩ : ∃ z, z = znw G1 t2 0 := ⟨_, rfl⟩
  have h := h _ hq _ hG _ rfl
  refine z_new (ci := 11) (t := t2) (pc' := 9) dX3_verdictOn_6 kX3_22 n11_inst n11_ini (by decide) rfl h2 h3 h4 h1 (z_df (by decide)) ?_
  refine z_mk hq hG ?_
  refine z_dup (pc' := 10) dX3_verdictOn_9 rfl rfl ?_
  obtain ⟨h1, h⟩ := h
  obtain ⟨d1, b1, Qz, hm, hdd, hb, hkx, hk⟩ := h
  refine z_callN (host := RX11) (Y := mX10_init) (n := 0) (as := []) (st := [.ref q_3, .ref q0]) (pc' := 13) (q := q_3) hm dX3_verdictOn_10 zne_X3_24 iX10_init rfl rfl h1 hdd hb (Nat.le_of_ble_eq_true rfl) (fun r G6 hz => ?_) hkx
  obtain ⟨rfl, h⟩ := hk r G6 hz
  obtain ⟨h1, h⟩ := h
  obtain ⟨G8, hG⟩ : ∃ z, z = zsr G6 q0 5 q_3 := ⟨_, rfl⟩
  have h := h _ hG
  refine z_putR (ci := 4) (kf := 5) (pc' := 16) dX3_verdictOn_13 kX3_25 (Or.inl rfl) (by decide) (by decide) rfl (Or.inl rfl) rfl h1 ?_
  refine z_st hG ?_
  refine z_aload_n (pc' := 17) dX3_verdictOn_16 rfl rfl ?_
  refine z_iconst (x := 0) (pc' := 18) dX3_verdictOn_17 (by decide) rfl ?_
  obtain ⟨h1, h⟩ := h
  obtain ⟨G9, hG⟩ : ∃ z, z = zsi G8 q0 1 0 := ⟨_, rfl⟩
  have h := h _ hG
  refine z_putI (ci := 4) (kf := 1) (pc' := 21) dX3_verdictOn_18 kX3_9 (Or.inl rfl) (by decide) (by decide) rfl (Or.inl rfl) rfl h1 (zok_int _) ?_
  refine z_st hG ?_
  refine z_aload_n (pc' := 22) dX3_verdictOn_21 rfl rfl ?_
  refine z_iconst (x := (-1)) (pc' := 23) dX3_verdictOn_22 (by decide) rfl ?_
  obtain ⟨h1, h⟩ := h
  obtain ⟨G10, hG⟩ : ∃ z, z = zsi G9 q0 2 (-1) := ⟨_, rfl⟩
  have h := h _ hG
  refine z_putI (ci := 4) (kf := 2) (pc' := 26) dX3_verdictOn_23 kX3_15 (Or.inl rfl) (by decide) (by decide) rfl (Or.inl rfl) rfl h1 (zok_int _) ?_
  refine z_st hG ?_
  refine z_aload_n (pc' := 27) dX3_verdictOn_26 rfl rfl ?_
  refine z_iconst (x := 0) (pc' := 28) dX3_verdictOn_27 (by decide) rfl ?_
  obtain ⟨h1, h⟩ := h
  obtain ⟨G11, hG⟩ : ∃ z, z = zsi G10 q0 8 0 := ⟨_, rfl⟩
  have h := h _ hG
  refine z_putI (ci := 4) (kf := 8) (pc' := 31) dX3_verdictOn_28 kX3_35 (Or.inl rfl) (by decide) (by decide) rfl (Or.inl rfl) rfl h1 (zok_int _) ?_
  refine z_st hG ?_
  refine z_aload_n (pc' := 32) dX3_verdictOn_31 rfl rfl ?_
  obtain ⟨h1, h⟩ := h
  obtain ⟨d1, b1, Qz, hm, hdd, hb, hkx, hk⟩ := h
  refine z_callV (Y := mX3_advance) (n := 0) (as := []) (st := []) (pc' := 35) (ci := 4) (q := q0) hm dX3_verdictOn_32 kX3_44 vX3_advance rfl rfl (by decide) rfl h1 hdd hb (Nat.le_of_ble_eq_true rfl) (fun r G12 hz => ?_) hkx
  obtain ⟨rfl, h⟩ := hk r G12 hz
  refine z_aload_n (pc' := 36) dX3_verdictOn_35 rfl rfl ?_
  obtain ⟨h1, h⟩ := h
  refine z_getI (ci := 4) (kf := 6) (pc' := 39) dX3_verdictOn_36 kX3_29 (Or.inl rfl) (by decide) (by decide) rfl rfl h1 ?_
  refine z_if_eq (pt := 46) (pc' := 42) dX3_verdictOn_39 (by decide) rfl (fun hc => ?_) (fun hc => ?_)
  · have h := h.1 hc
    refine z_iconst (x := 0) (pc' := 47) dX3_verdictOn_46 (by decide) rfl ?_
    refine z_istore_n (pc' := 48) dX3_verdictOn_47 (by decide) rfl ?_
    refine z_iconst (x := 0) (pc' := 49) dX3_verdictOn_48 (by decide) rfl ?_
    refine z_istore_n (pc' := 50) dX3_verdictOn_49 (by decide) rfl ?_
    exact z_dr (ls' := [some (.ref q0), none, some (.int 0), some (.int 0)]) ⟨rfl, rfl, rfl, trivial⟩ h
  · have h := h.2 hc
    refine z_iconst (x := 1) (pc' := 43) dX3_verdictOn_42 (by decide) rfl ?_
    refine z_goto (pc' := 47) dX3_verdictOn_43 (by decide) ?_
    refine z_istore_n (pc' := 48) dX3_verdictOn_47 (by decide) rfl ?_
    refine z_iconst (x := 0) (pc' := 49) dX3_verdictOn_48 (by decide) rfl ?_
    refine z_istore_n (pc' := 50) dX3_verdictOn_49 (by decide) rfl ?_
    exact z_dr (ls' := [some (.ref q0), none, some (.int 1), some (.int 0)]) ⟨rfl, rfl, rfl, trivial⟩ h
def wp_X3_verdictOn_50 (E : ZE) (l : Launch) (d b : Nat) (G0 : ZG) (Q : ZQ) (k : Nat) (q0 : Nat) (x2 : Int32) (x3 : Int32) (G : ZG) : Prop :=
  ((x2 = 0 →
    zW E l mX3_verdictOn d b G0 Q k 95 [some (.ref q0), none, some (.int x2), none] [] G) ∧
  (¬ (x2 = 0) →
    ((16 ≤ x3 →
      zW E l mX3_verdictOn d b G0 Q k 95 [some (.ref q0), none, some (.int x2), none] [] G) ∧
    (¬ (16 ≤ x3) →
      zob G q0 4 ∧
      xcV E l mX3_readClause d [.ref q0] G k (fun X G9 => Q (.inr X) G9) (fun G1 k2 =>
      zob G1 q0 4 ∧
      zob G1 q0 4 ∧
      ∀ G3, G3 = zsi G1 q0 1 ((ziv G1 q0 1) + 1) →
      zob G3 q0 4 ∧
      xcI E l mX3_isSign d [.ref q0, .int 59] G3 k2 (fun X G9 => Q (.inr X) G9) (fun y4 G5 k6 =>
      ((y4 = 0 →
        zW E l mX3_verdictOn d b G0 Q k6 50 [some (.ref q0), none, some (.int y4), some (.int (x3 + 1))] [] G5) ∧
      (¬ (y4 = 0) →
        zob G5 q0 4 ∧
        xcV E l mX3_advance d [.ref q0] G5 k6 (fun X G9 => Q (.inr X) G9) (fun G7 k8 =>
        zW E l mX3_verdictOn d b G0 Q k8 50 [some (.ref q0), none, some (.int y4), some (.int (x3 + 1))] [] G7)))))))))
theorem wpt_X3_verdictOn_50 {E : ZE} {l : Launch} {d b : Nat} {G0 : ZG} {Q : ZQ} {k : Nat} {q0 : Nat} {x2 : Int32} {x3 : Int32} {G : ZG} (h : wp_X3_verdictOn_50 E l d b G0 Q k q0 x2 x3 G) : zW E l mX3_verdictOn d b G0 Q k 50 [some (.ref q0), none, some (.int x2), some (.int x3)] [] G := by
  unfold wp_X3_verdictOn_50 at h
  refine z_iload_n (pc' := 51) dX3_verdictOn_50 rfl rfl ?_
  refine z_if_eq (pt := 95) (pc' := 54) dX3_verdictOn_51 (by decide) rfl (fun hc => ?_) (fun hc => ?_)
  · have h := h.1 hc
    exact z_dr (ls' := [some (.ref q0), none, some (.int x2), none]) ⟨rfl, rfl, trivial⟩ h
  · have h := h.2 hc
    refine z_iload_n (pc' := 55) dX3_verdictOn_54 rfl rfl ?_
    refine z_bipush (x := 16) (pc' := 57) dX3_verdictOn_55 (by decide) rfl ?_
    refine z_icmp_ge (pt := 95) (pc' := 60) dX3_verdictOn_57 (by decide) rfl (fun hc => ?_) (fun hc => ?_)
    · have h := h.1 hc
      exact z_dr (ls' := [some (.ref q0), none, some (.int x2), none]) ⟨rfl, rfl, trivial⟩ h
    · have h := h.2 hc
      refine z_aload_n (pc' := 61) dX3_verdictOn_60 rfl rfl ?_
      obtain ⟨h1, h⟩ := h
      obtain ⟨d1, b1, Qz, hm, hdd, hb, hkx, hk⟩ := h
      refine z_callV (Y := mX3_readClause) (n := 0) (as := []) (st := []) (pc' := 64) (ci := 4) (q := q0) hm dX3_verdictOn_61 kX3_47 vX3_readClause rfl rfl (by decide) rfl h1 hdd hb (Nat.le_of_ble_eq_true rfl) (fun r G1 hz => ?_) hkx
      obtain ⟨rfl, h⟩ := hk r G1 hz
      refine z_aload_n (pc' := 65) dX3_verdictOn_64 rfl rfl ?_
      refine z_dup (pc' := 66) dX3_verdictOn_65 rfl rfl ?_
      obtain ⟨h1, h⟩ := h
      refine z_getI (ci := 4) (kf := 1) (pc' := 69) dX3_verdictOn_66 kX3_9 (Or.inl rfl) (by decide) (by decide) rfl rfl h1 ?_
      refine z_iconst (x := 1) (pc' := 70) dX3_verdictOn_69 (by decide) rfl ?_
      refine z_iadd (pc' := 71) dX3_verdictOn_70 rfl rfl ?_
      obtain ⟨h1, h⟩ := h
      obtain ⟨G3, hG⟩ : ∃ z, z = zsi G1 q0 1 ((ziv G1 q0 1) + 1) := ⟨_, rfl⟩
      have h := h _ hG
      refine z_putI (ci := 4) (kf := 1) (pc' := 74) dX3_verdictOn_71 kX3_9 (Or.inl rfl) (by decide) (by decide) rfl (Or.inl rfl) rfl h1 (zok_int _) ?_
      refine z_st hG ?_
      refine z_aload_n (pc' := 75) dX3_verdictOn_74 rfl rfl ?_
      refine z_bipush (x := 59) (pc' := 77) dX3_verdictOn_75 (by decide) rfl ?_
      obtain ⟨h1, h⟩ := h
      obtain ⟨d1, b1, Qz, hm, hdd, hb, hkx, hk⟩ := h
      refine z_callV (Y := mX3_isSign) (n := 1) (as := [.int 59]) (st := []) (pc' := 80) (ci := 4) (q := q0) hm dX3_verdictOn_77 kX3_50 vX3_isSign rfl rfl (by decide) rfl h1 hdd hb (Nat.le_of_ble_eq_true rfl) (fun r G5 hz => ?_) hkx
      obtain ⟨y4, rfl, h⟩ := hk r G5 hz
      refine z_istore_n (pc' := 81) dX3_verdictOn_80 (by decide) rfl ?_
      refine z_iload_n (pc' := 82) dX3_verdictOn_81 rfl rfl ?_
      refine z_if_eq (pt := 89) (pc' := 85) dX3_verdictOn_82 (by decide) rfl (fun hc => ?_) (fun hc => ?_)
      · have h := h.1 hc
        refine z_iinc (y := x3 + 1) (pc' := 92) dX3_verdictOn_89 rfl (zinc_1 _) (by decide) rfl ?_
        refine z_goto (pc' := 50) dX3_verdictOn_92 (by decide) ?_
        exact z_dr (ls' := [some (.ref q0), none, some (.int y4), some (.int (x3 + 1))]) ⟨rfl, rfl, rfl, trivial⟩ h
      · have h := h.2 hc
        refine z_aload_n (pc' := 86) dX3_verdictOn_85 rfl rfl ?_
        obtain ⟨h1, h⟩ := h
        obtain ⟨d1, b1, Qz, hm, hdd, hb, hkx, hk⟩ := h
        refine z_callV (Y := mX3_advance) (n := 0) (as := []) (st := []) (pc' := 89) (ci := 4) (q := q0) hm dX3_verdictOn_86 kX3_44 vX3_advance rfl rfl (by decide) rfl h1 hdd hb (Nat.le_of_ble_eq_true rfl) (fun r G7 hz => ?_) hkx
        obtain ⟨rfl, h⟩ := hk r G7 hz
        refine z_iinc (y := x3 + 1) (pc' := 92) dX3_verdictOn_89 rfl (zinc_1 _) (by decide) rfl ?_
        refine z_goto (pc' := 50) dX3_verdictOn_92 (by decide) ?_
        exact z_dr (ls' := [some (.ref q0), none, some (.int y4), some (.int (x3 + 1))]) ⟨rfl, rfl, rfl, trivial⟩ h
def wp_X3_verdictOn_95 (E : ZE) (l : Launch) (d b : Nat) (G0 : ZG) (Q : ZQ) (k : Nat) (q0 : Nat) (x2 : Int32) (G : ZG) : Prop :=
  ((¬ x2 = 0 →
    zob G q0 4 ∧
    xcV E l mX3_fail d [.ref q0] G k (fun X G9 => Q (.inr X) G9) (fun G1 k2 =>
    zob G1 q0 4 ∧
    Q (.inl (some (.ref (zrv G1 q0 5)))) G1)) ∧
  (¬ (¬ x2 = 0) →
    zob G q0 4 ∧
    (((ziv G q0 6) = 0 →
      zob G q0 4 ∧
      Q (.inl (some (.ref (zrv G q0 5)))) G) ∧
    (¬ ((ziv G q0 6) = 0) →
      zob G q0 4 ∧
      xcV E l mX3_fail d [.ref q0] G k (fun X G9 => Q (.inr X) G9) (fun G3 k4 =>
      zob G3 q0 4 ∧
      Q (.inl (some (.ref (zrv G3 q0 5)))) G3)))))
theorem wpt_X3_verdictOn_95 {E : ZE} {l : Launch} {d b : Nat} {G0 : ZG} {Q : ZQ} {k : Nat} {q0 : Nat} {x2 : Int32} {G : ZG} (h : wp_X3_verdictOn_95 E l d b G0 Q k q0 x2 G) : zW E l mX3_verdictOn d b G0 Q k 95 [some (.ref q0), none, some (.int x2), none] [] G := by
  unfold wp_X3_verdictOn_95 at h
  refine z_iload_n (pc' := 96) dX3_verdictOn_95 rfl rfl ?_
  refine z_if_ne (pt := 106) (pc' := 99) dX3_verdictOn_96 (by decide) rfl (fun hc => ?_) (fun hc => ?_)
  · have h := h.1 hc
    refine z_aload_n (pc' := 107) dX3_verdictOn_106 rfl rfl ?_
    obtain ⟨h1, h⟩ := h
    obtain ⟨d1, b1, Qz, hm, hdd, hb, hkx, hk⟩ := h
    refine z_callV (Y := mX3_fail) (n := 0) (as := []) (st := []) (pc' := 110) (ci := 4) (q := q0) hm dX3_verdictOn_107 kX3_54 vX3_fail rfl rfl (by decide) rfl h1 hdd hb (Nat.le_of_ble_eq_true rfl) (fun r G1 hz => ?_) hkx
    obtain ⟨rfl, h⟩ := hk r G1 hz
    refine z_aload_n (pc' := 111) dX3_verdictOn_110 rfl rfl ?_
    obtain ⟨h1, h⟩ := h
    refine z_getR (ci := 4) (kf := 5) (pc' := 114) dX3_verdictOn_111 kX3_25 (Or.inl rfl) (by decide) (by decide) rfl rfl h1 ?_
    exact z_aret dX3_verdictOn_114 rfl (Or.inl ⟨_, rfl⟩) h
  · have h := h.2 hc
    refine z_aload_n (pc' := 100) dX3_verdictOn_99 rfl rfl ?_
    obtain ⟨h1, h⟩ := h
    refine z_getI (ci := 4) (kf := 6) (pc' := 103) dX3_verdictOn_100 kX3_29 (Or.inl rfl) (by decide) (by decide) rfl rfl h1 ?_
    refine z_if_eq (pt := 110) (pc' := 106) dX3_verdictOn_103 (by decide) rfl (fun hc => ?_) (fun hc => ?_)
    · have h := h.1 hc
      refine z_aload_n (pc' := 111) dX3_verdictOn_110 rfl rfl ?_
      obtain ⟨h1, h⟩ := h
      refine z_getR (ci := 4) (kf := 5) (pc' := 114) dX3_verdictOn_111 kX3_25 (Or.inl rfl) (by decide) (by decide) rfl rfl h1 ?_
      exact z_aret dX3_verdictOn_114 rfl (Or.inl ⟨_, rfl⟩) h
    · have h := h.2 hc
      refine z_aload_n (pc' := 107) dX3_verdictOn_106 rfl rfl ?_
      obtain ⟨h1, h⟩ := h
      obtain ⟨d1, b1, Qz, hm, hdd, hb, hkx, hk⟩ := h
      refine z_callV (Y := mX3_fail) (n := 0) (as := []) (st := []) (pc' := 110) (ci := 4) (q := q0) hm dX3_verdictOn_107 kX3_54 vX3_fail rfl rfl (by decide) rfl h1 hdd hb (Nat.le_of_ble_eq_true rfl) (fun r G3 hz => ?_) hkx
      obtain ⟨rfl, h⟩ := hk r G3 hz
      refine z_aload_n (pc' := 111) dX3_verdictOn_110 rfl rfl ?_
      obtain ⟨h1, h⟩ := h
      refine z_getR (ci := 4) (kf := 5) (pc' := 114) dX3_verdictOn_111 kX3_25 (Or.inl rfl) (by decide) (by decide) rfl rfl h1 ?_
      exact z_aret dX3_verdictOn_114 rfl (Or.inl ⟨_, rfl⟩) h
def wp_X4_init_0 (E : ZE) (l : Launch) (d b : Nat) (G0 : ZG) (Q : ZQ) (k : Nat) (q0 : Nat) (x1 : Int32) (x2 : Int32) (x3 : Int32) (x4 : Int32) (x5 : Int32) (G : ZG) : Prop :=
  zal G q0 ∧ 1 ≤ d ∧
  zob G q0 5 ∧
  ∀ G1, G1 = zsi G q0 0 x1 →
  zob G1 q0 5 ∧
  ∀ G2, G2 = zsi G1 q0 1 x2 →
  zob G2 q0 5 ∧
  ∀ G3, G3 = zsi G2 q0 2 x3 →
  zob G3 q0 5 ∧
  ∀ G4, G4 = zsi G3 q0 3 x4 →
  zob G4 q0 5 ∧
  ∀ G5, G5 = zsi G4 q0 4 x5 →
  Q (.inl none) G5
theorem wpt_X4_init_0 {E : ZE} {l : Launch} {d b : Nat} {G0 : ZG} {Q : ZQ} {k : Nat} {q0 : Nat} {x1 : Int32} {x2 : Int32} {x3 : Int32} {x4 : Int32} {x5 : Int32} {G : ZG} (h : wp_X4_init_0 E l d b G0 Q k q0 x1 x2 x3 x4 x5 G) : zW E l mX4_init d b G0 Q k 0 [some (.ref q0), some (.int x1), some (.int x2), some (.int x3), some (.int x4), some (.int x5)] [] G := by
  unfold wp_X4_init_0 at h
  refine z_aload_n (pc' := 1) dX4_init_0 rfl rfl ?_
  obtain ⟨h1, h2, h⟩ := h
  refine z_objInit (pc' := 4) dX4_init_1 kX4_1 o_inst o_code rfl h2 h1 (Nat.le_of_ble_eq_true rfl) ?_
  refine z_aload_n (pc' := 5) dX4_init_4 rfl rfl ?_
  refine z_iload_n (pc' := 6) dX4_init_5 rfl rfl ?_
  obtain ⟨h1, h⟩ := h
  obtain ⟨G1, hG⟩ : ∃ z, z = zsi G q0 0 x1 := ⟨_, rfl⟩
  have h := h _ hG
  refine z_putI (ci := 5) (kf := 0) (pc' := 9) dX4_init_6 kX4_7 (Or.inl rfl) (by decide) (by decide) rfl (Or.inr ⟨rfl, rfl⟩) rfl h1 (zok_int _) ?_
  refine z_st hG ?_
  refine z_aload_n (pc' := 10) dX4_init_9 rfl rfl ?_
  refine z_iload_n (pc' := 11) dX4_init_10 rfl rfl ?_
  obtain ⟨h1, h⟩ := h
  obtain ⟨G2, hG⟩ : ∃ z, z = zsi G1 q0 1 x2 := ⟨_, rfl⟩
  have h := h _ hG
  refine z_putI (ci := 5) (kf := 1) (pc' := 14) dX4_init_11 kX4_13 (Or.inl rfl) (by decide) (by decide) rfl (Or.inr ⟨rfl, rfl⟩) rfl h1 (zok_int _) ?_
  refine z_st hG ?_
  refine z_aload_n (pc' := 15) dX4_init_14 rfl rfl ?_
  refine z_iload_n (pc' := 16) dX4_init_15 rfl rfl ?_
  obtain ⟨h1, h⟩ := h
  obtain ⟨G3, hG⟩ : ∃ z, z = zsi G2 q0 2 x3 := ⟨_, rfl⟩
  have h := h _ hG
  refine z_putI (ci := 5) (kf := 2) (pc' := 19) dX4_init_16 kX4_16 (Or.inl rfl) (by decide) (by decide) rfl (Or.inr ⟨rfl, rfl⟩) rfl h1 (zok_int _) ?_
  refine z_st hG ?_
  refine z_aload_n (pc' := 20) dX4_init_19 rfl rfl ?_
  refine z_iload (pc' := 22) dX4_init_20 rfl rfl ?_
  obtain ⟨h1, h⟩ := h
  obtain ⟨G4, hG⟩ : ∃ z, z = zsi G3 q0 3 x4 := ⟨_, rfl⟩
  have h := h _ hG
  refine z_putI (ci := 5) (kf := 3) (pc' := 25) dX4_init_22 kX4_19 (Or.inl rfl) (by decide) (by decide) rfl (Or.inr ⟨rfl, rfl⟩) rfl h1 (zok_int _) ?_
  refine z_st hG ?_
  refine z_aload_n (pc' := 26) dX4_init_25 rfl rfl ?_
  refine z_iload (pc' := 28) dX4_init_26 rfl rfl ?_
  obtain ⟨h1, h⟩ := h
  obtain ⟨G5, hG⟩ : ∃ z, z = zsi G4 q0 4 x5 := ⟨_, rfl⟩
  have h := h _ hG
  refine z_putI (ci := 5) (kf := 4) (pc' := 31) dX4_init_28 kX4_22 (Or.inl rfl) (by decide) (by decide) rfl (Or.inr ⟨rfl, rfl⟩) rfl h1 (zok_int _) ?_
  refine z_st hG ?_
  exact z_vret dX4_init_31 rfl h
def wp_X4_unitsOn_0 (E : ZE) (l : Launch) (d b : Nat) (G0 : ZG) (Q : ZQ) (k : Nat) (q0 : Nat) (x1 : Int32) (G : ZG) : Prop :=
  zob G q0 5 ∧
  ((x1 < (ziv G q0 2) →
    Q (.inl (some (.int 0))) G) ∧
  (¬ (x1 < (ziv G q0 2)) →
    zob G q0 5 ∧
    ((x1 ≤ (ziv G q0 3) →
      zob G q0 5 ∧
      zob G q0 5 ∧
      (((x1 - (ziv G q0 2)) < (ziv G q0 4) →
        zW E l mX4_unitsOn d b G0 Q k 36 [some (.ref q0), none, none] [.int 0] G) ∧
      (¬ ((x1 - (ziv G q0 2)) < (ziv G q0 4)) →
        zW E l mX4_unitsOn d b G0 Q k 36 [some (.ref q0), none, none] [.int 1] G))) ∧
    (¬ (x1 ≤ (ziv G q0 3)) →
      Q (.inl (some (.int 0))) G))))
theorem wpt_X4_unitsOn_0 {E : ZE} {l : Launch} {d b : Nat} {G0 : ZG} {Q : ZQ} {k : Nat} {q0 : Nat} {x1 : Int32} {G : ZG} (h : wp_X4_unitsOn_0 E l d b G0 Q k q0 x1 G) : zW E l mX4_unitsOn d b G0 Q k 0 [some (.ref q0), some (.int x1), none] [] G := by
  unfold wp_X4_unitsOn_0 at h
  refine z_iload_n (pc' := 1) dX4_unitsOn_0 rfl rfl ?_
  refine z_aload_n (pc' := 2) dX4_unitsOn_1 rfl rfl ?_
  obtain ⟨h1, h⟩ := h
  refine z_getI (ci := 5) (kf := 2) (pc' := 5) dX4_unitsOn_2 kX4_16 (Or.inl rfl) (by decide) (by decide) rfl rfl h1 ?_
  refine z_icmp_lt (pt := 16) (pc' := 8) dX4_unitsOn_5 (by decide) rfl (fun hc => ?_) (fun hc => ?_)
  · have h := h.1 hc
    refine z_iconst (x := 0) (pc' := 17) dX4_unitsOn_16 (by decide) rfl ?_
    exact z_iret dX4_unitsOn_17 rfl h
  · have h := h.2 hc
    refine z_iload_n (pc' := 9) dX4_unitsOn_8 rfl rfl ?_
    refine z_aload_n (pc' := 10) dX4_unitsOn_9 rfl rfl ?_
    obtain ⟨h1, h⟩ := h
    refine z_getI (ci := 5) (kf := 3) (pc' := 13) dX4_unitsOn_10 kX4_19 (Or.inl rfl) (by decide) (by decide) rfl rfl h1 ?_
    refine z_icmp_le (pt := 18) (pc' := 16) dX4_unitsOn_13 (by decide) rfl (fun hc => ?_) (fun hc => ?_)
    · have h := h.1 hc
      refine z_iload_n (pc' := 19) dX4_unitsOn_18 rfl rfl ?_
      refine z_aload_n (pc' := 20) dX4_unitsOn_19 rfl rfl ?_
      obtain ⟨h1, h⟩ := h
      refine z_getI (ci := 5) (kf := 2) (pc' := 23) dX4_unitsOn_20 kX4_16 (Or.inl rfl) (by decide) (by decide) rfl rfl h1 ?_
      refine z_isub (pc' := 24) dX4_unitsOn_23 rfl rfl ?_
      refine z_aload_n (pc' := 25) dX4_unitsOn_24 rfl rfl ?_
      obtain ⟨h1, h⟩ := h
      refine z_getI (ci := 5) (kf := 4) (pc' := 28) dX4_unitsOn_25 kX4_22 (Or.inl rfl) (by decide) (by decide) rfl rfl h1 ?_
      refine z_icmp_lt (pt := 35) (pc' := 31) dX4_unitsOn_28 (by decide) rfl (fun hc => ?_) (fun hc => ?_)
      · have h := h.1 hc
        refine z_iconst (x := 0) (pc' := 36) dX4_unitsOn_35 (by decide) rfl ?_
        exact z_dr (ls' := [some (.ref q0), none, none]) ⟨rfl, trivial⟩ h
      · have h := h.2 hc
        refine z_iconst (x := 1) (pc' := 32) dX4_unitsOn_31 (by decide) rfl ?_
        refine z_goto (pc' := 36) dX4_unitsOn_32 (by decide) ?_
        exact z_dr (ls' := [some (.ref q0), none, none]) ⟨rfl, trivial⟩ h
    · have h := h.2 hc
      refine z_iconst (x := 0) (pc' := 17) dX4_unitsOn_16 (by decide) rfl ?_
      exact z_iret dX4_unitsOn_17 rfl h
def wp_X4_unitsOn_36 (E : ZE) (l : Launch) (d b : Nat) (G0 : ZG) (Q : ZQ) (k : Nat) (q0 : Nat) (s0 : Int32) (G : ZG) : Prop :=
  ((s0 = 0 →
    zob G q0 5 ∧
    Q (.inl (some (.int ((-(ziv G q0 1)) * 2)))) G) ∧
  (¬ (s0 = 0) →
    zob G q0 5 ∧
    Q (.inl (some (.int ((ziv G q0 1) * 8)))) G))
theorem wpt_X4_unitsOn_36 {E : ZE} {l : Launch} {d b : Nat} {G0 : ZG} {Q : ZQ} {k : Nat} {q0 : Nat} {s0 : Int32} {G : ZG} (h : wp_X4_unitsOn_36 E l d b G0 Q k q0 s0 G) : zW E l mX4_unitsOn d b G0 Q k 36 [some (.ref q0), none, none] [.int s0] G := by
  unfold wp_X4_unitsOn_36 at h
  refine z_istore_n (pc' := 37) dX4_unitsOn_36 (by decide) rfl ?_
  refine z_iload_n (pc' := 38) dX4_unitsOn_37 rfl rfl ?_
  refine z_if_eq (pt := 51) (pc' := 41) dX4_unitsOn_38 (by decide) rfl (fun hc => ?_) (fun hc => ?_)
  · have h := h.1 hc
    refine z_aload_n (pc' := 52) dX4_unitsOn_51 rfl rfl ?_
    obtain ⟨h1, h⟩ := h
    refine z_getI (ci := 5) (kf := 1) (pc' := 55) dX4_unitsOn_52 kX4_13 (Or.inl rfl) (by decide) (by decide) rfl rfl h1 ?_
    refine z_ineg (pc' := 56) dX4_unitsOn_55 rfl rfl ?_
    refine z_iconst (x := 2) (pc' := 57) dX4_unitsOn_56 (by decide) rfl ?_
    refine z_imul (pc' := 58) dX4_unitsOn_57 rfl rfl ?_
    exact z_iret dX4_unitsOn_58 rfl h
  · have h := h.2 hc
    refine z_aload_n (pc' := 42) dX4_unitsOn_41 rfl rfl ?_
    obtain ⟨h1, h⟩ := h
    refine z_getI (ci := 5) (kf := 1) (pc' := 45) dX4_unitsOn_42 kX4_13 (Or.inl rfl) (by decide) (by decide) rfl rfl h1 ?_
    refine z_bipush (x := 8) (pc' := 47) dX4_unitsOn_45 (by decide) rfl ?_
    refine z_imul (pc' := 48) dX4_unitsOn_47 rfl rfl ?_
    refine z_goto (pc' := 58) dX4_unitsOn_48 (by decide) ?_
    exact z_iret dX4_unitsOn_58 rfl h
def wp_X5_append_0 (E : ZE) (l : Launch) (d b : Nat) (G0 : ZG) (Q : ZQ) (k : Nat) (q0 : Nat) (x1 : Int32) (G : ZG) : Prop :=
  zob G q0 6 ∧
  ((24 ≤ (ziv G q0 1) →
    zob G q0 6 ∧
    zob G q0 6 ∧
    ∀ G1, G1 = zsi G q0 1 ((ziv G q0 1) + 1) →
    Q (.inl none) G1) ∧
  (¬ (24 ≤ (ziv G q0 1)) →
    zob G q0 6 ∧
    zob G q0 6 ∧
    zar G (zrv G q0 0) 0 ∧ vp_in (ziv G q0 1) (zln G (zrv G q0 0)) ∧
    ∀ G2, G2 = zsi G (zrv G q0 0) (ziv G q0 1).toNatClampNeg x1 →
    zob G2 q0 6 ∧
    zob G2 q0 6 ∧
    ∀ G3, G3 = zsi G2 q0 1 ((ziv G2 q0 1) + 1) →
    Q (.inl none) G3))
theorem wpt_X5_append_0 {E : ZE} {l : Launch} {d b : Nat} {G0 : ZG} {Q : ZQ} {k : Nat} {q0 : Nat} {x1 : Int32} {G : ZG} (h : wp_X5_append_0 E l d b G0 Q k q0 x1 G) : zW E l mX5_append d b G0 Q k 0 [some (.ref q0), some (.int x1)] [] G := by
  unfold wp_X5_append_0 at h
  refine z_aload_n (pc' := 1) dX5_append_0 rfl rfl ?_
  obtain ⟨h1, h⟩ := h
  refine z_getI (ci := 6) (kf := 1) (pc' := 4) dX5_append_1 kX5_15 (Or.inl rfl) (by decide) (by decide) rfl rfl h1 ?_
  refine z_bipush (x := 24) (pc' := 6) dX5_append_4 (by decide) rfl ?_
  refine z_icmp_ge (pt := 19) (pc' := 9) dX5_append_6 (by decide) rfl (fun hc => ?_) (fun hc => ?_)
  · have h := h.1 hc
    refine z_aload_n (pc' := 20) dX5_append_19 rfl rfl ?_
    refine z_dup (pc' := 21) dX5_append_20 rfl rfl ?_
    obtain ⟨h1, h⟩ := h
    refine z_getI (ci := 6) (kf := 1) (pc' := 24) dX5_append_21 kX5_15 (Or.inl rfl) (by decide) (by decide) rfl rfl h1 ?_
    refine z_iconst (x := 1) (pc' := 25) dX5_append_24 (by decide) rfl ?_
    refine z_iadd (pc' := 26) dX5_append_25 rfl rfl ?_
    obtain ⟨h1, h⟩ := h
    obtain ⟨G1, hG⟩ : ∃ z, z = zsi G q0 1 ((ziv G q0 1) + 1) := ⟨_, rfl⟩
    have h := h _ hG
    refine z_putI (ci := 6) (kf := 1) (pc' := 29) dX5_append_26 kX5_15 (Or.inl rfl) (by decide) (by decide) rfl (Or.inl rfl) rfl h1 (zok_int _) ?_
    refine z_st hG ?_
    exact z_vret dX5_append_29 rfl h
  · have h := h.2 hc
    refine z_aload_n (pc' := 10) dX5_append_9 rfl rfl ?_
    obtain ⟨h1, h⟩ := h
    refine z_getR (ci := 6) (kf := 0) (pc' := 13) dX5_append_10 kX5_11 (Or.inl rfl) (by decide) (by decide) rfl rfl h1 ?_
    refine z_aload_n (pc' := 14) dX5_append_13 rfl rfl ?_
    obtain ⟨h1, h⟩ := h
    refine z_getI (ci := 6) (kf := 1) (pc' := 17) dX5_append_14 kX5_15 (Or.inl rfl) (by decide) (by decide) rfl rfl h1 ?_
    refine z_iload_n (pc' := 18) dX5_append_17 rfl rfl ?_
    obtain ⟨h1, h2, h⟩ := h
    obtain ⟨G2, hG⟩ : ∃ z, z = zsi G (zrv G q0 0) (ziv G q0 1).toNatClampNeg x1 := ⟨_, rfl⟩
    have h := h _ hG
    refine z_iast (pc' := 19) dX5_append_18 rfl h1 h2  ?_
    refine z_st hG ?_
    refine z_aload_n (pc' := 20) dX5_append_19 rfl rfl ?_
    refine z_dup (pc' := 21) dX5_append_20 rfl rfl ?_
    obtain ⟨h1, h⟩ := h
    refine z_getI (ci := 6) (kf := 1) (pc' := 24) dX5_append_21 kX5_15 (Or.inl rfl) (by decide) (by decide) rfl rfl h1 ?_
    refine z_iconst (x := 1) (pc' := 25) dX5_append_24 (by decide) rfl ?_
    refine z_iadd (pc' := 26) dX5_append_25 rfl rfl ?_
    obtain ⟨h1, h⟩ := h
    obtain ⟨G3, hG⟩ : ∃ z, z = zsi G2 q0 1 ((ziv G2 q0 1) + 1) := ⟨_, rfl⟩
    have h := h _ hG
    refine z_putI (ci := 6) (kf := 1) (pc' := 29) dX5_append_26 kX5_15 (Or.inl rfl) (by decide) (by decide) rfl (Or.inl rfl) rfl h1 (zok_int _) ?_
    refine z_st hG ?_
    exact z_vret dX5_append_29 rfl h
def wp_X5_checkFigure_0 (E : ZE) (l : Launch) (d b : Nat) (G0 : ZG) (Q : ZQ) (k : Nat) (q0 : Nat) (G : ZG) : Prop :=
  zW E l mX5_checkFigure d b G0 Q k 4 [some (.ref q0), some (.int 0), some (.int 0), none] [] G
theorem wpt_X5_checkFigure_0 {E : ZE} {l : Launch} {d b : Nat} {G0 : ZG} {Q : ZQ} {k : Nat} {q0 : Nat} {G : ZG} (h : wp_X5_checkFigure_0 E l d b G0 Q k q0 G) : zW E l mX5_checkFigure d b G0 Q k 0 [some (.ref q0), none, none, none] [] G := by
  unfold wp_X5_checkFigure_0 at h
  refine z_iconst (x := 0) (pc' := 1) dX5_checkFigure_0 (by decide) rfl ?_
  refine z_istore_n (pc' := 2) dX5_checkFigure_1 (by decide) rfl ?_
  refine z_iconst (x := 0) (pc' := 3) dX5_checkFigure_2 (by decide) rfl ?_
  refine z_istore_n (pc' := 4) dX5_checkFigure_3 (by decide) rfl ?_
  exact z_dr (ls' := [some (.ref q0), some (.int 0), some (.int 0), none]) ⟨rfl, rfl, rfl, trivial⟩ h
def wp_X5_checkFigure_4 (E : ZE) (l : Launch) (d b : Nat) (G0 : ZG) (Q : ZQ) (k : Nat) (q0 : Nat) (x1 : Int32) (x2 : Int32) (G : ZG) : Prop :=
  ((24 ≤ x2 →
    Q (.inl (some (.int (x1 - x1 / 10 * 10)))) G) ∧
  (¬ (24 ≤ x2) →
    zob G q0 6 ∧
    (zar G (zrv G q0 0) 0 ∨ zrd G (zrv G q0 0) .int) ∧ vp_in x2 (zln G (zrv G q0 0)) ∧
    ((¬ (ziv G (zrv G q0 0) x2.toNatClampNeg) = 60 →
      zob G q0 6 ∧
      (zar G (zrv G q0 0) 0 ∨ zrd G (zrv G q0 0) .int) ∧ vp_in x2 (zln G (zrv G q0 0)) ∧
      zW E l mX5_checkFigure d b G0 Q k 37 [some (.ref q0), some (.int x1), some (.int x2), none] [.int (((ziv G (zrv G q0 0) x2.toNatClampNeg) - 65) + 10)] G) ∧
    (¬ (¬ (ziv G (zrv G q0 0) x2.toNatClampNeg) = 60) →
      zW E l mX5_checkFigure d b G0 Q k 37 [some (.ref q0), some (.int x1), some (.int x2), none] [.int 0] G))))
theorem wpt_X5_checkFigure_4 {E : ZE} {l : Launch} {d b : Nat} {G0 : ZG} {Q : ZQ} {k : Nat} {q0 : Nat} {x1 : Int32} {x2 : Int32} {G : ZG} (h : wp_X5_checkFigure_4 E l d b G0 Q k q0 x1 x2 G) : zW E l mX5_checkFigure d b G0 Q k 4 [some (.ref q0), some (.int x1), some (.int x2), none] [] G := by
  unfold wp_X5_checkFigure_4 at h
  refine z_iload_n (pc' := 5) dX5_checkFigure_4 rfl rfl ?_
  refine z_bipush (x := 24) (pc' := 7) dX5_checkFigure_5 (by decide) rfl ?_
  refine z_icmp_ge (pt := 59) (pc' := 10) dX5_checkFigure_7 (by decide) rfl (fun hc => ?_) (fun hc => ?_)
  · have h := h.1 hc
    refine z_iload_n (pc' := 60) dX5_checkFigure_59 rfl rfl ?_
    refine z_bipush (x := 10) (pc' := 62) dX5_checkFigure_60 (by decide) rfl ?_
    refine z_irem (pc' := 63) dX5_checkFigure_62 (by decide) rfl rfl ?_
    exact z_iret dX5_checkFigure_63 rfl h
  · have h := h.2 hc
    refine z_aload_n (pc' := 11) dX5_checkFigure_10 rfl rfl ?_
    obtain ⟨h1, h⟩ := h
    refine z_getR (ci := 6) (kf := 0) (pc' := 14) dX5_checkFigure_11 kX5_11 (Or.inl rfl) (by decide) (by decide) rfl rfl h1 ?_
    refine z_iload_n (pc' := 15) dX5_checkFigure_14 rfl rfl ?_
    obtain ⟨h1, h2, h⟩ := h
    refine z_iald (pc' := 16) dX5_checkFigure_15 rfl h1 h2 ?_
    refine z_bipush (x := 60) (pc' := 18) dX5_checkFigure_16 (by decide) rfl ?_
    refine z_icmp_ne (pt := 25) (pc' := 21) dX5_checkFigure_18 (by decide) rfl (fun hc => ?_) (fun hc => ?_)
    · have h := h.1 hc
      refine z_aload_n (pc' := 26) dX5_checkFigure_25 rfl rfl ?_
      obtain ⟨h1, h⟩ := h
      refine z_getR (ci := 6) (kf := 0) (pc' := 29) dX5_checkFigure_26 kX5_11 (Or.inl rfl) (by decide) (by decide) rfl rfl h1 ?_
      refine z_iload_n (pc' := 30) dX5_checkFigure_29 rfl rfl ?_
      obtain ⟨h1, h2, h⟩ := h
      refine z_iald (pc' := 31) dX5_checkFigure_30 rfl h1 h2 ?_
      refine z_bipush (x := 65) (pc' := 33) dX5_checkFigure_31 (by decide) rfl ?_
      refine z_isub (pc' := 34) dX5_checkFigure_33 rfl rfl ?_
      refine z_bipush (x := 10) (pc' := 36) dX5_checkFigure_34 (by decide) rfl ?_
      refine z_iadd (pc' := 37) dX5_checkFigure_36 rfl rfl ?_
      exact z_dr (ls' := [some (.ref q0), some (.int x1), some (.int x2), none]) ⟨rfl, rfl, rfl, trivial⟩ h
    · have h := h.2 hc
      refine z_iconst (x := 0) (pc' := 22) dX5_checkFigure_21 (by decide) rfl ?_
      refine z_goto (pc' := 37) dX5_checkFigure_22 (by decide) ?_
      exact z_dr (ls' := [some (.ref q0), some (.int x1), some (.int x2), none]) ⟨rfl, rfl, rfl, trivial⟩ h
def wp_X5_checkFigure_37 (E : ZE) (l : Launch) (d b : Nat) (G0 : ZG) (Q : ZQ) (k : Nat) (q0 : Nat) (x1 : Int32) (x2 : Int32) (s0 : Int32) (G : ZG) : Prop :=
  (zar G (zp 3600 0) 0 ∨ zrd G (zp 3600 0) .int) ∧
  ¬ (Int32.ofNat (zln G (zp 3600 0))) = 0 ∧
  (zar G (zp 3600 0) 0 ∨ zrd G (zp 3600 0) .int) ∧ vp_in (x2 - x2 / (Int32.ofNat (zln G (zp 3600 0))) * (Int32.ofNat (zln G (zp 3600 0)))) (zln G (zp 3600 0)) ∧
  zW E l mX5_checkFigure d b G0 Q k 4 [some (.ref q0), some (.int (x1 + (s0 * (ziv G (zp 3600 0) (x2 - x2 / (Int32.ofNat (zln G (zp 3600 0))) * (Int32.ofNat (zln G (zp 3600 0)))).toNatClampNeg)))), some (.int (x2 + 1)), none] [] G
theorem wpt_X5_checkFigure_37 {E : ZE} {l : Launch} {d b : Nat} {G0 : ZG} {Q : ZQ} {k : Nat} {q0 : Nat} {x1 : Int32} {x2 : Int32} {s0 : Int32} {G : ZG} (h : wp_X5_checkFigure_37 E l d b G0 Q k q0 x1 x2 s0 G) : zW E l mX5_checkFigure d b G0 Q k 37 [some (.ref q0), some (.int x1), some (.int x2), none] [.int s0] G := by
  unfold wp_X5_checkFigure_37 at h
  refine z_istore_n (pc' := 38) dX5_checkFigure_37 (by decide) rfl ?_
  refine z_iload_n (pc' := 39) dX5_checkFigure_38 rfl rfl ?_
  refine z_iload_n (pc' := 40) dX5_checkFigure_39 rfl rfl ?_
  refine z_gets (x := ("PassportOffice$Name", "WEIGHTS", "[I", zp 3600 0)) (pc' := 43) (by simp [zstat]) dX5_checkFigure_40 kX5_59 rfl (by unfold zfx; decide) (by decide) ?_
  refine z_iload_n (pc' := 44) dX5_checkFigure_43 rfl rfl ?_
  refine z_gets (x := ("PassportOffice$Name", "WEIGHTS", "[I", zp 3600 0)) (pc' := 47) (by simp [zstat]) dX5_checkFigure_44 kX5_59 rfl (by unfold zfx; decide) (by decide) ?_
  obtain ⟨h1, h⟩ := h
  refine z_alen (pc' := 48) dX5_checkFigure_47 rfl (h1.imp (fun h => ⟨0, by decide, h⟩) (fun h => ⟨_, h⟩)) rfl ?_
  obtain ⟨h1, h⟩ := h
  refine z_irem (pc' := 49) dX5_checkFigure_48 h1 rfl rfl ?_
  obtain ⟨h1, h2, h⟩ := h
  refine z_iald (pc' := 50) dX5_checkFigure_49 rfl h1 h2 ?_
  refine z_imul (pc' := 51) dX5_checkFigure_50 rfl rfl ?_
  refine z_iadd (pc' := 52) dX5_checkFigure_51 rfl rfl ?_
  refine z_istore_n (pc' := 53) dX5_checkFigure_52 (by decide) rfl ?_
  refine z_iinc (y := x2 + 1) (pc' := 56) dX5_checkFigure_53 rfl (zinc_1 _) (by decide) rfl ?_
  refine z_goto (pc' := 4) dX5_checkFigure_56 (by decide) ?_
  exact z_dr (ls' := [some (.ref q0), some (.int (x1 + (s0 * (ziv G (zp 3600 0) (x2 - x2 / (Int32.ofNat (zln G (zp 3600 0))) * (Int32.ofNat (zln G (zp 3600 0)))).toNatClampNeg)))), some (.int (x2 + 1)), none]) ⟨rfl, rfl, rfl, trivial⟩ h
