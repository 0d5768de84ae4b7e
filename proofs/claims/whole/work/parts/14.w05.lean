/-! what the methods come to -/
def wp_X12_readAtom_0 (E : ZE) (l : Launch) (d b : Nat) (G0 : ZG) (Q : ZQ) (k : Nat) (q0 : Nat) (G : ZG) : Prop :=
  zob G q0 13 ∧
  xcI E l mX12_passesSign d [.ref q0, .int 40] G k (fun X G9 => Q (.inr X) G9) (fun y1 G2 k3 =>
  ((y1 = 0 →
    zob G2 q0 13 ∧
    xcI E l mX12_passes d [.ref q0, .ref (zp 1000 3)] G2 k3 (fun X G9 => Q (.inr X) G9) (fun y4 G5 k6 =>
    ((y4 = 0 →
      zob G5 q0 13 ∧
      xcV E l mX12_word d [.ref q0] G5 k6 (fun X G9 => Q (.inr X) G9) (fun G7 k8 =>
      zW E l mX12_readAtom d b G0 Q k8 122 [some (.ref q0), some (.int 0), none, none] [] G7)) ∧
    (¬ (y4 = 0) →
      zob G5 q0 13 ∧
      ((¬ (ziv G5 q0 7) = 8 →
        zob G5 q0 13 ∧
        zob G5 q0 13 ∧
        ∀ G9, G9 = zsi G5 q0 7 ((ziv G5 q0 7) + 1) →
        zob G9 q0 13 ∧
        xcI E l mX12_readAtom d [.ref q0] G9 k6 (fun X G9 => Q (.inr X) G9) (fun y10 G11 k12 =>
        ((¬ y10 = 0 →
          zob G11 q0 13 ∧
          zob G11 q0 13 ∧
          ∀ G13, G13 = zsi G11 q0 7 ((ziv G11 q0 7) - 1) →
          zob G13 q0 13 ∧
          xcV E l mX12_adds d [.ref q0, .int 100, .int 0, .int 0] G13 k12 (fun X G9 => Q (.inr X) G9) (fun G14 k15 =>
          Q (.inl (some (.int 1))) G14)) ∧
        (¬ (¬ y10 = 0) →
          Q (.inl (some (.int 0))) G11)))) ∧
      (¬ (¬ (ziv G5 q0 7) = 8) →
        Q (.inl (some (.int 0))) G5)))))) ∧
  (¬ (y1 = 0) →
    zob G2 q0 13 ∧
    ((¬ (ziv G2 q0 7) = 8 →
      zob G2 q0 13 ∧
      zob G2 q0 13 ∧
      ∀ G16, G16 = zsi G2 q0 7 ((ziv G2 q0 7) + 1) →
      zob G16 q0 13 ∧
      xcI E l mX12_readCond d [.ref q0] G16 k3 (fun X G9 => Q (.inr X) G9) (fun y17 G18 k19 =>
      ((¬ y17 = 0 →
        zob G18 q0 13 ∧
        zob G18 q0 13 ∧
        ∀ G20, G20 = zsi G18 q0 7 ((ziv G18 q0 7) - 1) →
        zob G20 q0 13 ∧
        xcI E l mX12_passesSign d [.ref q0, .int 41] G20 k19 (fun X G9 => Q (.inr X) G9) (fun y21 G22 k23 =>
        narrow .boolean (.int y21) = .int y21 ∧ Q (.inl (some (.int y21))) G22)) ∧
      (¬ (¬ y17 = 0) →
        Q (.inl (some (.int 0))) G18)))) ∧
    (¬ (¬ (ziv G2 q0 7) = 8) →
      Q (.inl (some (.int 0))) G2)))))
theorem wpt_X12_readAtom_0 {E : ZE} {l : Launch} {d b : Nat} {G0 : ZG} {Q : ZQ} {k : Nat} {q0 : Nat} {G : ZG} (h : wp_X12_readAtom_0 E l d b G0 Q k q0 G) : zW E l mX12_readAtom d b G0 Q k 0 [some (.ref q0), none, none, none] [] G := by
  unfold wp_X12_readAtom_0 at h
  refine z_aload_n (pc' := 1) dX12_readAtom_0 rfl rfl ?_
  refine z_bipush (x := 40) (pc' := 3) dX12_readAtom_1 (by decide) rfl ?_
  obtain ⟨h1, h⟩ := h
  obtain ⟨d1, b1, Qz, hm, hdd, hb, hkx, hk⟩ := h
  refine z_callV (Y := mX12_passesSign) (n := 1) (as := [.int 40]) (st := []) (pc' := 6) (ci := 13) (q := q0) hm dX12_readAtom_3 kX12_254 vX12_passesSign rfl rfl (by decide) rfl h1 hdd hb (Nat.le_of_ble_eq_true rfl) (fun r G2 hz => ?_) hkx
  obtain ⟨y1, rfl, h⟩ := hk r G2 hz
  refine z_if_eq (pt := 56) (pc' := 9) dX12_readAtom_6 (by decide) rfl (fun hc => ?_) (fun hc => ?_)
  · have h := h.1 hc
    refine z_aload_n (pc' := 57) dX12_readAtom_56 rfl rfl ?_
    refine z_ldcSW (n := 3) (pc' := 60) (own := RX12) (tx := "not") rfl (by decide) dX12_readAtom_57 rfl ?_
    obtain ⟨h1, h⟩ := h
    obtain ⟨d1, b1, Qz, hm, hdd, hb, hkx, hk⟩ := h
    refine z_callV (Y := mX12_passes) (n := 1) (as := [.ref (zp 1000 3)]) (st := []) (pc' := 63) (ci := 13) (q := q0) hm dX12_readAtom_60 kX12_267 vX12_passes rfl rfl (by decide) rfl h1 hdd hb (Nat.le_of_ble_eq_true rfl) (fun r G5 hz => ?_) hkx
    obtain ⟨y4, rfl, h⟩ := hk r G5 hz
    refine z_if_eq (pt := 116) (pc' := 66) dX12_readAtom_63 (by decide) rfl (fun hc => ?_) (fun hc => ?_)
    · have h := h.1 hc
      refine z_aload_n (pc' := 117) dX12_readAtom_116 rfl rfl ?_
      obtain ⟨h1, h⟩ := h
      obtain ⟨d1, b1, Qz, hm, hdd, hb, hkx, hk⟩ := h
      refine z_callV (Y := mX12_word) (n := 0) (as := []) (st := []) (pc' := 120) (ci := 13) (q := q0) hm dX12_readAtom_117 kX12_210 vX12_word rfl rfl (by decide) rfl h1 hdd hb (Nat.le_of_ble_eq_true rfl) (fun r G7 hz => ?_) hkx
      obtain ⟨rfl, h⟩ := hk r G7 hz
      refine z_iconst (x := 0) (pc' := 121) dX12_readAtom_120 (by decide) rfl ?_
      refine z_istore_n (pc' := 122) dX12_readAtom_121 (by decide) rfl ?_
      exact z_dr (ls' := [some (.ref q0), some (.int 0), none, none]) ⟨rfl, rfl, trivial⟩ h
    · have h := h.2 hc
      refine z_aload_n (pc' := 67) dX12_readAtom_66 rfl rfl ?_
      obtain ⟨h1, h⟩ := h
      refine z_getI (ci := 13) (kf := 7) (pc' := 70) dX12_readAtom_67 kX12_258 (Or.inl rfl) (by decide) (by decide) rfl rfl h1 ?_
      refine z_bipush (x := 8) (pc' := 72) dX12_readAtom_70 (by decide) rfl ?_
      refine z_icmp_ne (pt := 77) (pc' := 75) dX12_readAtom_72 (by decide) rfl (fun hc => ?_) (fun hc => ?_)
      · have h := h.1 hc
        refine z_aload_n (pc' := 78) dX12_readAtom_77 rfl rfl ?_
        refine z_dup (pc' := 79) dX12_readAtom_78 rfl rfl ?_
        obtain ⟨h1, h⟩ := h
        refine z_getI (ci := 13) (kf := 7) (pc' := 82) dX12_readAtom_79 kX12_258 (Or.inl rfl) (by decide) (by decide) rfl rfl h1 ?_
        refine z_iconst (x := 1) (pc' := 83) dX12_readAtom_82 (by decide) rfl ?_
        refine z_iadd (pc' := 84) dX12_readAtom_83 rfl rfl ?_
        obtain ⟨h1, h⟩ := h
        obtain ⟨G9, hG⟩ : ∃ z, z = zsi G5 q0 7 ((ziv G5 q0 7) + 1) := ⟨_, rfl⟩
        have h := h _ hG
        refine z_putI (ci := 13) (kf := 7) (pc' := 87) dX12_readAtom_84 kX12_258 (Or.inl rfl) (by decide) (by decide) rfl (Or.inl rfl) rfl h1 (zok_int _) ?_
        refine z_st hG ?_
        refine z_aload_n (pc' := 88) dX12_readAtom_87 rfl rfl ?_
        obtain ⟨h1, h⟩ := h
        obtain ⟨d1, b1, Qz, hm, hdd, hb, hkx, hk⟩ := h
        refine z_callV (Y := mX12_readAtom) (n := 0) (as := []) (st := []) (pc' := 91) (ci := 13) (q := q0) hm dX12_readAtom_88 kX12_270 vX12_readAtom rfl rfl (by decide) rfl h1 hdd hb (Nat.le_of_ble_eq_true rfl) (fun r G11 hz => ?_) hkx
        obtain ⟨y10, rfl, h⟩ := hk r G11 hz
        refine z_if_ne (pt := 96) (pc' := 94) dX12_readAtom_91 (by decide) rfl (fun hc => ?_) (fun hc => ?_)
        · have h := h.1 hc
          refine z_aload_n (pc' := 97) dX12_readAtom_96 rfl rfl ?_
          refine z_dup (pc' := 98) dX12_readAtom_97 rfl rfl ?_
          obtain ⟨h1, h⟩ := h
          refine z_getI (ci := 13) (kf := 7) (pc' := 101) dX12_readAtom_98 kX12_258 (Or.inl rfl) (by decide) (by decide) rfl rfl h1 ?_
          refine z_iconst (x := 1) (pc' := 102) dX12_readAtom_101 (by decide) rfl ?_
          refine z_isub (pc' := 103) dX12_readAtom_102 rfl rfl ?_
          obtain ⟨h1, h⟩ := h
          obtain ⟨G13, hG⟩ : ∃ z, z = zsi G11 q0 7 ((ziv G11 q0 7) - 1) := ⟨_, rfl⟩
          have h := h _ hG
          refine z_putI (ci := 13) (kf := 7) (pc' := 106) dX12_readAtom_103 kX12_258 (Or.inl rfl) (by decide) (by decide) rfl (Or.inl rfl) rfl h1 (zok_int _) ?_
          refine z_st hG ?_
          refine z_aload_n (pc' := 107) dX12_readAtom_106 rfl rfl ?_
          refine z_bipush (x := 100) (pc' := 109) dX12_readAtom_107 (by decide) rfl ?_
          refine z_iconst (x := 0) (pc' := 110) dX12_readAtom_109 (by decide) rfl ?_
          refine z_iconst (x := 0) (pc' := 111) dX12_readAtom_110 (by decide) rfl ?_
          obtain ⟨h1, h⟩ := h
          obtain ⟨d1, b1, Qz, hm, hdd, hb, hkx, hk⟩ := h
          refine z_callV (Y := mX12_adds) (n := 3) (as := [.int 100, .int 0, .int 0]) (st := []) (pc' := 114) (ci := 13) (q := q0) hm dX12_readAtom_111 kX12_273 vX12_adds rfl rfl (by decide) rfl h1 hdd hb (Nat.le_of_ble_eq_true rfl) (fun r G14 hz => ?_) hkx
          obtain ⟨rfl, h⟩ := hk r G14 hz
          refine z_iconst (x := 1) (pc' := 115) dX12_readAtom_114 (by decide) rfl ?_
          exact z_zret (ty := .boolean) dX12_readAtom_115 rfl (by decide) h
        · have h := h.2 hc
          refine z_iconst (x := 0) (pc' := 95) dX12_readAtom_94 (by decide) rfl ?_
          exact z_zret (ty := .boolean) dX12_readAtom_95 rfl (by decide) h
      · have h := h.2 hc
        refine z_iconst (x := 0) (pc' := 76) dX12_readAtom_75 (by decide) rfl ?_
        exact z_zret (ty := .boolean) dX12_readAtom_76 rfl (by decide) h
  · have h := h.2 hc
    refine z_aload_n (pc' := 10) dX12_readAtom_9 rfl rfl ?_
    obtain ⟨h1, h⟩ := h
    refine z_getI (ci := 13) (kf := 7) (pc' := 13) dX12_readAtom_10 kX12_258 (Or.inl rfl) (by decide) (by decide) rfl rfl h1 ?_
    refine z_bipush (x := 8) (pc' := 15) dX12_readAtom_13 (by decide) rfl ?_
    refine z_icmp_ne (pt := 20) (pc' := 18) dX12_readAtom_15 (by decide) rfl (fun hc => ?_) (fun hc => ?_)
    · have h := h.1 hc
      refine z_aload_n (pc' := 21) dX12_readAtom_20 rfl rfl ?_
      refine z_dup (pc' := 22) dX12_readAtom_21 rfl rfl ?_
      obtain ⟨h1, h⟩ := h
      refine z_getI (ci := 13) (kf := 7) (pc' := 25) dX12_readAtom_22 kX12_258 (Or.inl rfl) (by decide) (by decide) rfl rfl h1 ?_
      refine z_iconst (x := 1) (pc' := 26) dX12_readAtom_25 (by decide) rfl ?_
      refine z_iadd (pc' := 27) dX12_readAtom_26 rfl rfl ?_
      obtain ⟨h1, h⟩ := h
      obtain ⟨G16, hG⟩ : ∃ z, z = zsi G2 q0 7 ((ziv G2 q0 7) + 1) := ⟨_, rfl⟩
      have h := h _ hG
      refine z_putI (ci := 13) (kf := 7) (pc' := 30) dX12_readAtom_27 kX12_258 (Or.inl rfl) (by decide) (by decide) rfl (Or.inl rfl) rfl h1 (zok_int _) ?_
      refine z_st hG ?_
      refine z_aload_n (pc' := 31) dX12_readAtom_30 rfl rfl ?_
      obtain ⟨h1, h⟩ := h
      obtain ⟨d1, b1, Qz, hm, hdd, hb, hkx, hk⟩ := h
      refine z_callV (Y := mX12_readCond) (n := 0) (as := []) (st := []) (pc' := 34) (ci := 13) (q := q0) hm dX12_readAtom_31 kX12_261 vX12_readCond rfl rfl (by decide) rfl h1 hdd hb (Nat.le_of_ble_eq_true rfl) (fun r G18 hz => ?_) hkx
      obtain ⟨y17, rfl, h⟩ := hk r G18 hz
      refine z_if_ne (pt := 39) (pc' := 37) dX12_readAtom_34 (by decide) rfl (fun hc => ?_) (fun hc => ?_)
      · have h := h.1 hc
        refine z_aload_n (pc' := 40) dX12_readAtom_39 rfl rfl ?_
        refine z_dup (pc' := 41) dX12_readAtom_40 rfl rfl ?_
        obtain ⟨h1, h⟩ := h
        refine z_getI (ci := 13) (kf := 7) (pc' := 44) dX12_readAtom_41 kX12_258 (Or.inl rfl) (by decide) (by decide) rfl rfl h1 ?_
        refine z_iconst (x := 1) (pc' := 45) dX12_readAtom_44 (by decide) rfl ?_
        refine z_isub (pc' := 46) dX12_readAtom_45 rfl rfl ?_
        obtain ⟨h1, h⟩ := h
        obtain ⟨G20, hG⟩ : ∃ z, z = zsi G18 q0 7 ((ziv G18 q0 7) - 1) := ⟨_, rfl⟩
        have h := h _ hG
        refine z_putI (ci := 13) (kf := 7) (pc' := 49) dX12_readAtom_46 kX12_258 (Or.inl rfl) (by decide) (by decide) rfl (Or.inl rfl) rfl h1 (zok_int _) ?_
        refine z_st hG ?_
        refine z_aload_n (pc' := 50) dX12_readAtom_49 rfl rfl ?_
        refine z_bipush (x := 41) (pc' := 52) dX12_readAtom_50 (by decide) rfl ?_
        obtain ⟨h1, h⟩ := h
        obtain ⟨d1, b1, Qz, hm, hdd, hb, hkx, hk⟩ := h
        refine z_callV (Y := mX12_passesSign) (n := 1) (as := [.int 41]) (st := []) (pc' := 55) (ci := 13) (q := q0) hm dX12_readAtom_52 kX12_254 vX12_passesSign rfl rfl (by decide) rfl h1 hdd hb (Nat.le_of_ble_eq_true rfl) (fun r G22 hz => ?_) hkx
        obtain ⟨y21, rfl, h⟩ := hk r G22 hz
        exact z_zret (ty := .boolean) dX12_readAtom_55 rfl h.1 h.2
      · have h := h.2 hc
        refine z_iconst (x := 0) (pc' := 38) dX12_readAtom_37 (by decide) rfl ?_
        exact z_zret (ty := .boolean) dX12_readAtom_38 rfl (by decide) h
    · have h := h.2 hc
      refine z_iconst (x := 0) (pc' := 19) dX12_readAtom_18 (by decide) rfl ?_
      exact z_zret (ty := .boolean) dX12_readAtom_19 rfl (by decide) h
def wp_X12_readAtom_122 (E : ZE) (l : Launch) (d b : Nat) (G0 : ZG) (Q : ZQ) (k : Nat) (q0 : Nat) (x1 : Int32) (G : ZG) : Prop :=
  ((9 ≤ x1 →
    zW E l mX12_readAtom d b G0 Q k 145 [some (.ref q0), some (.int x1), none, none] [] G) ∧
  (¬ (9 ≤ x1) →
    xcR E l mX12_fact d [.int x1] G k (fun X G9 => Q (.inr X) G9) (fun y1 G2 k3 =>
    zob G2 q0 13 ∧
    xcI E l mX12_isWord d [.ref q0, .ref y1] G2 k3 (fun X G9 => Q (.inr X) G9) (fun y4 G5 k6 =>
    ((¬ y4 = 0 →
      zW E l mX12_readAtom d b G0 Q k6 145 [some (.ref q0), some (.int x1), none, none] [] G5) ∧
    (¬ (¬ y4 = 0) →
      zW E l mX12_readAtom d b G0 Q k6 122 [some (.ref q0), some (.int (x1 + 1)), none, none] [] G5))))))
theorem wpt_X12_readAtom_122 {E : ZE} {l : Launch} {d b : Nat} {G0 : ZG} {Q : ZQ} {k : Nat} {q0 : Nat} {x1 : Int32} {G : ZG} (h : wp_X12_readAtom_122 E l d b G0 Q k q0 x1 G) : zW E l mX12_readAtom d b G0 Q k 122 [some (.ref q0), some (.int x1), none, none] [] G := by
  unfold wp_X12_readAtom_122 at h
  refine z_iload_n (pc' := 123) dX12_readAtom_122 rfl rfl ?_
  refine z_bipush (x := 9) (pc' := 125) dX12_readAtom_123 (by decide) rfl ?_
  refine z_icmp_ge (pt := 145) (pc' := 128) dX12_readAtom_125 (by decide) rfl (fun hc => ?_) (fun hc => ?_)
  · have h := h.1 hc
    exact z_dr (ls' := [some (.ref q0), some (.int x1), none, none]) ⟨rfl, rfl, trivial⟩ h
  · have h := h.2 hc
    refine z_aload_n (pc' := 129) dX12_readAtom_128 rfl rfl ?_
    refine z_iload_n (pc' := 130) dX12_readAtom_129 rfl rfl ?_
    obtain ⟨d1, b1, Qz, hm, hdd, hb, hkx, hk⟩ := h
    refine z_callS (Y := mX12_fact) (n := 1) (as := [.int x1]) (st := [.ref q0]) (pc' := 133) hm dX12_readAtom_130 kX12_277 sX12_fact rfl rfl hdd hb (Nat.le_of_ble_eq_true rfl) (fun r G2 hz => ?_) hkx
    obtain ⟨y1, rfl, h⟩ := hk r G2 hz
    obtain ⟨h1, h⟩ := h
    obtain ⟨d1, b1, Qz, hm, hdd, hb, hkx, hk⟩ := h
    refine z_callV (Y := mX12_isWord) (n := 1) (as := [.ref y1]) (st := []) (pc' := 136) (ci := 13) (q := q0) hm dX12_readAtom_133 kX12_213 vX12_isWord rfl rfl (by decide) rfl h1 hdd hb (Nat.le_of_ble_eq_true rfl) (fun r G5 hz => ?_) hkx
    obtain ⟨y4, rfl, h⟩ := hk r G5 hz
    refine z_if_ne (pt := 145) (pc' := 139) dX12_readAtom_136 (by decide) rfl (fun hc => ?_) (fun hc => ?_)
    · have h := h.1 hc
      exact z_dr (ls' := [some (.ref q0), some (.int x1), none, none]) ⟨rfl, rfl, trivial⟩ h
    · have h := h.2 hc
      refine z_iinc (y := x1 + 1) (pc' := 142) dX12_readAtom_139 rfl (zinc_1 _) (by decide) rfl ?_
      refine z_goto (pc' := 122) dX12_readAtom_142 (by decide) ?_
      exact z_dr (ls' := [some (.ref q0), some (.int (x1 + 1)), none, none]) ⟨rfl, rfl, trivial⟩ h
def wp_X12_readAtom_145 (E : ZE) (l : Launch) (d b : Nat) (G0 : ZG) (Q : ZQ) (k : Nat) (q0 : Nat) (x1 : Int32) (G : ZG) : Prop :=
  ((¬ x1 = 9 →
    zob G q0 13 ∧
    xcV E l mX12_blanksBetween d [.ref q0] G k (fun X G9 => Q (.inr X) G9) (fun G1 k2 =>
    zob G1 q0 13 ∧
    xcI E l mX12_isAt d [.ref q0, .int 60, .int 60] G1 k2 (fun X G9 => Q (.inr X) G9) (fun y3 G4 k5 =>
    ((y3 = 0 →
      zob G4 q0 13 ∧
      xcI E l mX12_isAt d [.ref q0, .int 62, .int 62] G4 k5 (fun X G9 => Q (.inr X) G9) (fun y6 G7 k8 =>
      ((y6 = 0 →
        (((0 : Int32) ≤ 0 →
          zW E l mX12_readAtom d b G0 Q k8 203 [some (.ref q0), some (.int x1), some (.int 0), none] [] G7) ∧
        (¬ ((0 : Int32) ≤ 0) →
          zob G7 q0 13 ∧
          zob G7 q0 13 ∧
          ∀ G9, G9 = zsi G7 q0 4 ((ziv G7 q0 4) + 1) →
          zW E l mX12_readAtom d b G0 Q k8 203 [some (.ref q0), some (.int x1), some (.int 0), none] [] G9))) ∧
      (¬ (y6 = 0) →
        (((2 : Int32) ≤ 0 →
          zW E l mX12_readAtom d b G0 Q k8 203 [some (.ref q0), some (.int x1), some (.int 2), none] [] G7) ∧
        (¬ ((2 : Int32) ≤ 0) →
          zob G7 q0 13 ∧
          zob G7 q0 13 ∧
          ∀ G10, G10 = zsi G7 q0 4 ((ziv G7 q0 4) + 1) →
          zW E l mX12_readAtom d b G0 Q k8 203 [some (.ref q0), some (.int x1), some (.int 2), none] [] G10)))))) ∧
    (¬ (y3 = 0) →
      (((1 : Int32) ≤ 0 →
        zW E l mX12_readAtom d b G0 Q k5 203 [some (.ref q0), some (.int x1), some (.int 1), none] [] G4) ∧
      (¬ ((1 : Int32) ≤ 0) →
        zob G4 q0 13 ∧
        zob G4 q0 13 ∧
        ∀ G11, G11 = zsi G4 q0 4 ((ziv G4 q0 4) + 1) →
        zW E l mX12_readAtom d b G0 Q k5 203 [some (.ref q0), some (.int x1), some (.int 1), none] [] G11))))))) ∧
  (¬ (¬ x1 = 9) →
    Q (.inl (some (.int 0))) G))
theorem wpt_X12_readAtom_145 {E : ZE} {l : Launch} {d b : Nat} {G0 : ZG} {Q : ZQ} {k : Nat} {q0 : Nat} {x1 : Int32} {G : ZG} (h : wp_X12_readAtom_145 E l d b G0 Q k q0 x1 G) : zW E l mX12_readAtom d b G0 Q k 145 [some (.ref q0), some (.int x1), none, none] [] G := by
  unfold wp_X12_readAtom_145 at h
  refine z_iload_n (pc' := 146) dX12_readAtom_145 rfl rfl ?_
  refine z_bipush (x := 9) (pc' := 148) dX12_readAtom_146 (by decide) rfl ?_
  refine z_icmp_ne (pt := 153) (pc' := 151) dX12_readAtom_148 (by decide) rfl (fun hc => ?_) (fun hc => ?_)
  · have h := h.1 hc
    refine z_aload_n (pc' := 154) dX12_readAtom_153 rfl rfl ?_
    obtain ⟨h1, h⟩ := h
    obtain ⟨d1, b1, Qz, hm, hdd, hb, hkx, hk⟩ := h
    refine z_callV (Y := mX12_blanksBetween) (n := 0) (as := []) (st := []) (pc' := 157) (ci := 13) (q := q0) hm dX12_readAtom_154 kX12_197 vX12_blanksBetween rfl rfl (by decide) rfl h1 hdd hb (Nat.le_of_ble_eq_true rfl) (fun r G1 hz => ?_) hkx
    obtain ⟨rfl, h⟩ := hk r G1 hz
    refine z_aload_n (pc' := 158) dX12_readAtom_157 rfl rfl ?_
    refine z_bipush (x := 60) (pc' := 160) dX12_readAtom_158 (by decide) rfl ?_
    refine z_bipush (x := 60) (pc' := 162) dX12_readAtom_160 (by decide) rfl ?_
    obtain ⟨h1, h⟩ := h
    obtain ⟨d1, b1, Qz, hm, hdd, hb, hkx, hk⟩ := h
    refine z_callV (Y := mX12_isAt) (n := 2) (as := [.int 60, .int 60]) (st := []) (pc' := 165) (ci := 13) (q := q0) hm dX12_readAtom_162 kX12_190 vX12_isAt rfl rfl (by decide) rfl h1 hdd hb (Nat.le_of_ble_eq_true rfl) (fun r G4 hz => ?_) hkx
    obtain ⟨y3, rfl, h⟩ := hk r G4 hz
    refine z_if_eq (pt := 172) (pc' := 168) dX12_readAtom_165 (by decide) rfl (fun hc => ?_) (fun hc => ?_)
    · have h := h.1 hc
      refine z_aload_n (pc' := 173) dX12_readAtom_172 rfl rfl ?_
      refine z_bipush (x := 62) (pc' := 175) dX12_readAtom_173 (by decide) rfl ?_
      refine z_bipush (x := 62) (pc' := 177) dX12_readAtom_175 (by decide) rfl ?_
      obtain ⟨h1, h⟩ := h
      obtain ⟨d1, b1, Qz, hm, hdd, hb, hkx, hk⟩ := h
      refine z_callV (Y := mX12_isAt) (n := 2) (as := [.int 62, .int 62]) (st := []) (pc' := 180) (ci := 13) (q := q0) hm dX12_readAtom_177 kX12_190 vX12_isAt rfl rfl (by decide) rfl h1 hdd hb (Nat.le_of_ble_eq_true rfl) (fun r G7 hz => ?_) hkx
      obtain ⟨y6, rfl, h⟩ := hk r G7 hz
      refine z_if_eq (pt := 187) (pc' := 183) dX12_readAtom_180 (by decide) rfl (fun hc => ?_) (fun hc => ?_)
      · have h := h.1 hc
        refine z_iconst (x := 0) (pc' := 188) dX12_readAtom_187 (by decide) rfl ?_
        refine z_istore_n (pc' := 189) dX12_readAtom_188 (by decide) rfl ?_
        refine z_iload_n (pc' := 190) dX12_readAtom_189 rfl rfl ?_
        refine z_if_le (pt := 203) (pc' := 193) dX12_readAtom_190 (by decide) rfl (fun hc => ?_) (fun hc => ?_)
        · have h := h.1 hc
          exact z_dr (ls' := [some (.ref q0), some (.int x1), some (.int 0), none]) ⟨rfl, rfl, rfl, trivial⟩ h
        · have h := h.2 hc
          refine z_aload_n (pc' := 194) dX12_readAtom_193 rfl rfl ?_
          refine z_dup (pc' := 195) dX12_readAtom_194 rfl rfl ?_
          obtain ⟨h1, h⟩ := h
          refine z_getI (ci := 13) (kf := 4) (pc' := 198) dX12_readAtom_195 kX12_187 (Or.inl rfl) (by decide) (by decide) rfl rfl h1 ?_
          refine z_iconst (x := 1) (pc' := 199) dX12_readAtom_198 (by decide) rfl ?_
          refine z_iadd (pc' := 200) dX12_readAtom_199 rfl rfl ?_
          obtain ⟨h1, h⟩ := h
          obtain ⟨G9, hG⟩ : ∃ z, z = zsi G7 q0 4 ((ziv G7 q0 4) + 1) := ⟨_, rfl⟩
          have h := h _ hG
          refine z_putI (ci := 13) (kf := 4) (pc' := 203) dX12_readAtom_200 kX12_187 (Or.inl rfl) (by decide) (by decide) rfl (Or.inl rfl) rfl h1 (zok_int _) ?_
          refine z_st hG ?_
          exact z_dr (ls' := [some (.ref q0), some (.int x1), some (.int 0), none]) ⟨rfl, rfl, rfl, trivial⟩ h
      · have h := h.2 hc
        refine z_iconst (x := 2) (pc' := 184) dX12_readAtom_183 (by decide) rfl ?_
        refine z_goto (pc' := 188) dX12_readAtom_184 (by decide) ?_
        refine z_istore_n (pc' := 189) dX12_readAtom_188 (by decide) rfl ?_
        refine z_iload_n (pc' := 190) dX12_readAtom_189 rfl rfl ?_
        refine z_if_le (pt := 203) (pc' := 193) dX12_readAtom_190 (by decide) rfl (fun hc => ?_) (fun hc => ?_)
        · have h := h.1 hc
          exact z_dr (ls' := [some (.ref q0), some (.int x1), some (.int 2), none]) ⟨rfl, rfl, rfl, trivial⟩ h
        · have h := h.2 hc
          refine z_aload_n (pc' := 194) dX12_readAtom_193 rfl rfl ?_
          refine z_dup (pc' := 195) dX12_readAtom_194 rfl rfl ?_
          obtain ⟨h1, h⟩ := h
          refine z_getI (ci := 13) (kf := 4) (pc' := 198) dX12_readAtom_195 kX12_187 (Or.inl rfl) (by decide) (by decide) rfl rfl h1 ?_
          refine z_iconst (x := 1) (pc' := 199) dX12_readAtom_198 (by decide) rfl ?_
          refine z_iadd (pc' := 200) dX12_readAtom_199 rfl rfl ?_
          obtain ⟨h1, h⟩ := h
          obtain ⟨G10, hG⟩ : ∃ z, z = zsi G7 q0 4 ((ziv G7 q0 4) + 1) := ⟨_, rfl⟩
          have h := h _ hG
          refine z_putI (ci := 13) (kf := 4) (pc' := 203) dX12_readAtom_200 kX12_187 (Or.inl rfl) (by decide) (by decide) rfl (Or.inl rfl) rfl h1 (zok_int _) ?_
          refine z_st hG ?_
          exact z_dr (ls' := [some (.ref q0), some (.int x1), some (.int 2), none]) ⟨rfl, rfl, rfl, trivial⟩ h
    · have h := h.2 hc
      refine z_iconst (x := 1) (pc' := 169) dX12_readAtom_168 (by decide) rfl ?_
      refine z_goto (pc' := 188) dX12_readAtom_169 (by decide) ?_
      refine z_istore_n (pc' := 189) dX12_readAtom_188 (by decide) rfl ?_
      refine z_iload_n (pc' := 190) dX12_readAtom_189 rfl rfl ?_
      refine z_if_le (pt := 203) (pc' := 193) dX12_readAtom_190 (by decide) rfl (fun hc => ?_) (fun hc => ?_)
      · have h := h.1 hc
        exact z_dr (ls' := [some (.ref q0), some (.int x1), some (.int 1), none]) ⟨rfl, rfl, rfl, trivial⟩ h
      · have h := h.2 hc
        refine z_aload_n (pc' := 194) dX12_readAtom_193 rfl rfl ?_
        refine z_dup (pc' := 195) dX12_readAtom_194 rfl rfl ?_
        obtain ⟨h1, h⟩ := h
        refine z_getI (ci := 13) (kf := 4) (pc' := 198) dX12_readAtom_195 kX12_187 (Or.inl rfl) (by decide) (by decide) rfl rfl h1 ?_
        refine z_iconst (x := 1) (pc' := 199) dX12_readAtom_198 (by decide) rfl ?_
        refine z_iadd (pc' := 200) dX12_readAtom_199 rfl rfl ?_
        obtain ⟨h1, h⟩ := h
        obtain ⟨G11, hG⟩ : ∃ z, z = zsi G4 q0 4 ((ziv G4 q0 4) + 1) := ⟨_, rfl⟩
        have h := h _ hG
        refine z_putI (ci := 13) (kf := 4) (pc' := 203) dX12_readAtom_200 kX12_187 (Or.inl rfl) (by decide) (by decide) rfl (Or.inl rfl) rfl h1 (zok_int _) ?_
        refine z_st hG ?_
        exact z_dr (ls' := [some (.ref q0), some (.int x1), some (.int 1), none]) ⟨rfl, rfl, rfl, trivial⟩ h
  · have h := h.2 hc
    refine z_iconst (x := 0) (pc' := 152) dX12_readAtom_151 (by decide) rfl ?_
    exact z_zret (ty := .boolean) dX12_readAtom_152 rfl (by decide) h
def wp_X12_readAtom_203 (E : ZE) (l : Launch) (d b : Nat) (G0 : ZG) (Q : ZQ) (k : Nat) (q0 : Nat) (x1 : Int32) (x2 : Int32) (G : ZG) : Prop :=
  ((x2 ≤ 0 →
    ((0 ≤ (0 : Int32) →
      zob G q0 13 ∧
      xcV E l mX12_adds d [.ref q0, .int x1, .int x2, .int 0] G k (fun X G9 => Q (.inr X) G9) (fun G1 k2 =>
      Q (.inl (some (.int 1))) G1)) ∧
    (¬ (0 ≤ (0 : Int32)) →
      Q (.inl (some (.int 0))) G))) ∧
  (¬ (x2 ≤ 0) →
    zob G q0 13 ∧
    xcI E l mX12_number d [.ref q0] G k (fun X G9 => Q (.inr X) G9) (fun y3 G4 k5 =>
    ((0 ≤ y3 →
      zob G4 q0 13 ∧
      xcV E l mX12_adds d [.ref q0, .int x1, .int x2, .int y3] G4 k5 (fun X G9 => Q (.inr X) G9) (fun G6 k7 =>
      Q (.inl (some (.int 1))) G6)) ∧
    (¬ (0 ≤ y3) →
      Q (.inl (some (.int 0))) G4)))))
theorem wpt_X12_readAtom_203 {E : ZE} {l : Launch} {d b : Nat} {G0 : ZG} {Q : ZQ} {k : Nat} {q0 : Nat} {x1 : Int32} {x2 : Int32} {G : ZG} (h : wp_X12_readAtom_203 E l d b G0 Q k q0 x1 x2 G) : zW E l mX12_readAtom d b G0 Q k 203 [some (.ref q0), some (.int x1), some (.int x2), none] [] G := by
  unfold wp_X12_readAtom_203 at h
  refine z_iload_n (pc' := 204) dX12_readAtom_203 rfl rfl ?_
  refine z_if_le (pt := 214) (pc' := 207) dX12_readAtom_204 (by decide) rfl (fun hc => ?_) (fun hc => ?_)
  · have h := h.1 hc
    refine z_iconst (x := 0) (pc' := 215) dX12_readAtom_214 (by decide) rfl ?_
    refine z_istore_n (pc' := 216) dX12_readAtom_215 (by decide) rfl ?_
    refine z_iload_n (pc' := 217) dX12_readAtom_216 rfl rfl ?_
    refine z_if_ge (pt := 222) (pc' := 220) dX12_readAtom_217 (by decide) rfl (fun hc => ?_) (fun hc => ?_)
    · have h := h.1 hc
      refine z_aload_n (pc' := 223) dX12_readAtom_222 rfl rfl ?_
      refine z_iload_n (pc' := 224) dX12_readAtom_223 rfl rfl ?_
      refine z_iload_n (pc' := 225) dX12_readAtom_224 rfl rfl ?_
      refine z_iload_n (pc' := 226) dX12_readAtom_225 rfl rfl ?_
      obtain ⟨h1, h⟩ := h
      obtain ⟨d1, b1, Qz, hm, hdd, hb, hkx, hk⟩ := h
      refine z_callV (Y := mX12_adds) (n := 3) (as := [.int x1, .int x2, .int 0]) (st := []) (pc' := 229) (ci := 13) (q := q0) hm dX12_readAtom_226 kX12_273 vX12_adds rfl rfl (by decide) rfl h1 hdd hb (Nat.le_of_ble_eq_true rfl) (fun r G1 hz => ?_) hkx
      obtain ⟨rfl, h⟩ := hk r G1 hz
      refine z_iconst (x := 1) (pc' := 230) dX12_readAtom_229 (by decide) rfl ?_
      exact z_zret (ty := .boolean) dX12_readAtom_230 rfl (by decide) h
    · have h := h.2 hc
      refine z_iconst (x := 0) (pc' := 221) dX12_readAtom_220 (by decide) rfl ?_
      exact z_zret (ty := .boolean) dX12_readAtom_221 rfl (by decide) h
  · have h := h.2 hc
    refine z_aload_n (pc' := 208) dX12_readAtom_207 rfl rfl ?_
    obtain ⟨h1, h⟩ := h
    obtain ⟨d1, b1, Qz, hm, hdd, hb, hkx, hk⟩ := h
    refine z_callV (Y := mX12_number) (n := 0) (as := []) (st := []) (pc' := 211) (ci := 13) (q := q0) hm dX12_readAtom_208 kX12_281 vX12_number rfl rfl (by decide) rfl h1 hdd hb (Nat.le_of_ble_eq_true rfl) (fun r G4 hz => ?_) hkx
    obtain ⟨y3, rfl, h⟩ := hk r G4 hz
    refine z_goto (pc' := 215) dX12_readAtom_211 (by decide) ?_
    refine z_istore_n (pc' := 216) dX12_readAtom_215 (by decide) rfl ?_
    refine z_iload_n (pc' := 217) dX12_readAtom_216 rfl rfl ?_
    refine z_if_ge (pt := 222) (pc' := 220) dX12_readAtom_217 (by decide) rfl (fun hc => ?_) (fun hc => ?_)
    · have h := h.1 hc
      refine z_aload_n (pc' := 223) dX12_readAtom_222 rfl rfl ?_
      refine z_iload_n (pc' := 224) dX12_readAtom_223 rfl rfl ?_
      refine z_iload_n (pc' := 225) dX12_readAtom_224 rfl rfl ?_
      refine z_iload_n (pc' := 226) dX12_readAtom_225 rfl rfl ?_
      obtain ⟨h1, h⟩ := h
      obtain ⟨d1, b1, Qz, hm, hdd, hb, hkx, hk⟩ := h
      refine z_callV (Y := mX12_adds) (n := 3) (as := [.int x1, .int x2, .int y3]) (st := []) (pc' := 229) (ci := 13) (q := q0) hm dX12_readAtom_226 kX12_273 vX12_adds rfl rfl (by decide) rfl h1 hdd hb (Nat.le_of_ble_eq_true rfl) (fun r G6 hz => ?_) hkx
      obtain ⟨rfl, h⟩ := hk r G6 hz
      refine z_iconst (x := 1) (pc' := 230) dX12_readAtom_229 (by decide) rfl ?_
      exact z_zret (ty := .boolean) dX12_readAtom_230 rfl (by decide) h
    · have h := h.2 hc
      refine z_iconst (x := 0) (pc' := 221) dX12_readAtom_220 (by decide) rfl ?_
      exact z_zret (ty := .boolean) dX12_readAtom_221 rfl (by decide) h
def wp_X12_readClause_0 (E : ZE) (l : Launch) (d b : Nat) (G0 : ZG) (Q : ZQ) (k : Nat) (q0 : Nat) (x1 : Int32) (G : ZG) : Prop :=
  zob G q0 13 ∧
  xcV E l mX12_word d [.ref q0] G k (fun X G9 => Q (.inr X) G9) (fun G1 k2 =>
  ((¬ x1 = 16 →
    zob G1 q0 13 ∧
    zob G1 q0 13 ∧
    xcI E l mX12_isWord d [.ref q0, .ref (zp 1000 9)] G1 k2 (fun X G9 => Q (.inr X) G9) (fun y3 G4 k5 =>
    ((y3 = 0 →
      zob G4 q0 13 ∧
      xcI E l mX12_isWord d [.ref q0, .ref (zp 1000 10)] G4 k5 (fun X G9 => Q (.inr X) G9) (fun y6 G7 k8 =>
      ((y6 = 0 →
        zob G7 q0 13 ∧
        xcI E l mX12_isWord d [.ref q0, .ref (zp 1000 11)] G7 k8 (fun X G9 => Q (.inr X) G9) (fun y9 G10 k11 =>
        ((y9 = 0 →
          zob G10 q0 13 ∧
          xcI E l mX12_isWord d [.ref q0, .ref (zp 1000 12)] G10 k11 (fun X G9 => Q (.inr X) G9) (fun y12 G13 k14 =>
          ((y12 = 0 →
            zob G13 q0 13 ∧
            xcI E l mX12_isWord d [.ref q0, .ref (zp 1000 13)] G13 k14 (fun X G9 => Q (.inr X) G9) (fun y15 G16 k17 =>
            ((y15 = 0 →
              zob G16 q0 13 ∧
              xcI E l mX12_isWord d [.ref q0, .ref (zp 1000 14)] G16 k17 (fun X G9 => Q (.inr X) G9) (fun y18 G19 k20 =>
              ((y18 = 0 →
                zW E l mX12_readClause d b G0 Q k20 108 [some (.ref q0), none, some (.int (192 + x1)), none] [.int (-1), .int (192 + x1), .ref (zrv G1 q0 12)] G19) ∧
              (¬ (y18 = 0) →
                zW E l mX12_readClause d b G0 Q k20 108 [some (.ref q0), none, some (.int (192 + x1)), none] [.int 5, .int (192 + x1), .ref (zrv G1 q0 12)] G19)))) ∧
            (¬ (y15 = 0) →
              zW E l mX12_readClause d b G0 Q k17 108 [some (.ref q0), none, some (.int (192 + x1)), none] [.int 4, .int (192 + x1), .ref (zrv G1 q0 12)] G16)))) ∧
          (¬ (y12 = 0) →
            zW E l mX12_readClause d b G0 Q k14 108 [some (.ref q0), none, some (.int (192 + x1)), none] [.int 3, .int (192 + x1), .ref (zrv G1 q0 12)] G13)))) ∧
        (¬ (y9 = 0) →
          zW E l mX12_readClause d b G0 Q k11 108 [some (.ref q0), none, some (.int (192 + x1)), none] [.int 2, .int (192 + x1), .ref (zrv G1 q0 12)] G10)))) ∧
      (¬ (y6 = 0) →
        zW E l mX12_readClause d b G0 Q k8 108 [some (.ref q0), none, some (.int (192 + x1)), none] [.int 1, .int (192 + x1), .ref (zrv G1 q0 12)] G7)))) ∧
    (¬ (y3 = 0) →
      zW E l mX12_readClause d b G0 Q k5 108 [some (.ref q0), none, some (.int (192 + x1)), none] [.int 0, .int (192 + x1), .ref (zrv G1 q0 12)] G4)))) ∧
  (¬ (¬ x1 = 16) →
    Q (.inl (some (.int 0))) G1)))
theorem wpt_X12_readClause_0 {E : ZE} {l : Launch} {d b : Nat} {G0 : ZG} {Q : ZQ} {k : Nat} {q0 : Nat} {x1 : Int32} {G : ZG} (h : wp_X12_readClause_0 E l d b G0 Q k q0 x1 G) : zW E l mX12_readClause d b G0 Q k 0 [some (.ref q0), some (.int x1), none, none] [] G := by
  unfold wp_X12_readClause_0 at h
  refine z_aload_n (pc' := 1) dX12_readClause_0 rfl rfl ?_
  obtain ⟨h1, h⟩ := h
  obtain ⟨d1, b1, Qz, hm, hdd, hb, hkx, hk⟩ := h
  refine z_callV (Y := mX12_word) (n := 0) (as := []) (st := []) (pc' := 4) (ci := 13) (q := q0) hm dX12_readClause_1 kX12_210 vX12_word rfl rfl (by decide) rfl h1 hdd hb (Nat.le_of_ble_eq_true rfl) (fun r G1 hz => ?_) hkx
  obtain ⟨rfl, h⟩ := hk r G1 hz
  refine z_iload_n (pc' := 5) dX12_readClause_4 rfl rfl ?_
  refine z_bipush (x := 16) (pc' := 7) dX12_readClause_5 (by decide) rfl ?_
  refine z_icmp_ne (pt := 12) (pc' := 10) dX12_readClause_7 (by decide) rfl (fun hc => ?_) (fun hc => ?_)
  · have h := h.1 hc
    refine z_sipush (x := 192) (pc' := 15) dX12_readClause_12 (by decide) rfl ?_
    refine z_iload_n (pc' := 16) dX12_readClause_15 rfl rfl ?_
    refine z_iadd (pc' := 17) dX12_readClause_16 rfl rfl ?_
    refine z_istore_n (pc' := 18) dX12_readClause_17 (by decide) rfl ?_
    refine z_aload_n (pc' := 19) dX12_readClause_18 rfl rfl ?_
    obtain ⟨h1, h⟩ := h
    refine z_getR (ci := 13) (kf := 12) (pc' := 22) dX12_readClause_19 kX12_27 (Or.inl rfl) (by decide) (by decide) rfl rfl h1 ?_
    refine z_iload_n (pc' := 23) dX12_readClause_22 rfl rfl ?_
    refine z_aload_n (pc' := 24) dX12_readClause_23 rfl rfl ?_
    refine z_ldcSW (n := 9) (pc' := 27) (own := RX12) (tx := "need") rfl (by decide) dX12_readClause_24 rfl ?_
    obtain ⟨h1, h⟩ := h
    obtain ⟨d1, b1, Qz, hm, hdd, hb, hkx, hk⟩ := h
    refine z_callV (Y := mX12_isWord) (n := 1) (as := [.ref (zp 1000 9)]) (st := [.int (192 + x1), .ref (zrv G1 q0 12)]) (pc' := 30) (ci := 13) (q := q0) hm dX12_readClause_27 kX12_213 vX12_isWord rfl rfl (by decide) rfl h1 hdd hb (Nat.le_of_ble_eq_true rfl) (fun r G4 hz => ?_) hkx
    obtain ⟨y3, rfl, h⟩ := hk r G4 hz
    refine z_if_eq (pt := 37) (pc' := 33) dX12_readClause_30 (by decide) rfl (fun hc => ?_) (fun hc => ?_)
    · have h := h.1 hc
      refine z_aload_n (pc' := 38) dX12_readClause_37 rfl rfl ?_
      refine z_ldcSW (n := 10) (pc' := 41) (own := RX12) (tx := "fee") rfl (by decide) dX12_readClause_38 rfl ?_
      obtain ⟨h1, h⟩ := h
      obtain ⟨d1, b1, Qz, hm, hdd, hb, hkx, hk⟩ := h
      refine z_callV (Y := mX12_isWord) (n := 1) (as := [.ref (zp 1000 10)]) (st := [.int (192 + x1), .ref (zrv G1 q0 12)]) (pc' := 44) (ci := 13) (q := q0) hm dX12_readClause_41 kX12_213 vX12_isWord rfl rfl (by decide) rfl h1 hdd hb (Nat.le_of_ble_eq_true rfl) (fun r G7 hz => ?_) hkx
      obtain ⟨y6, rfl, h⟩ := hk r G7 hz
      refine z_if_eq (pt := 51) (pc' := 47) dX12_readClause_44 (by decide) rfl (fun hc => ?_) (fun hc => ?_)
      · have h := h.1 hc
        refine z_aload_n (pc' := 52) dX12_readClause_51 rfl rfl ?_
        refine z_ldcSW (n := 11) (pc' := 55) (own := RX12) (tx := "years") rfl (by decide) dX12_readClause_52 rfl ?_
        obtain ⟨h1, h⟩ := h
        obtain ⟨d1, b1, Qz, hm, hdd, hb, hkx, hk⟩ := h
        refine z_callV (Y := mX12_isWord) (n := 1) (as := [.ref (zp 1000 11)]) (st := [.int (192 + x1), .ref (zrv G1 q0 12)]) (pc' := 58) (ci := 13) (q := q0) hm dX12_readClause_55 kX12_213 vX12_isWord rfl rfl (by decide) rfl h1 hdd hb (Nat.le_of_ble_eq_true rfl) (fun r G10 hz => ?_) hkx
        obtain ⟨y9, rfl, h⟩ := hk r G10 hz
        refine z_if_eq (pt := 65) (pc' := 61) dX12_readClause_58 (by decide) rfl (fun hc => ?_) (fun hc => ?_)
        · have h := h.1 hc
          refine z_aload_n (pc' := 66) dX12_readClause_65 rfl rfl ?_
          refine z_ldcSW (n := 12) (pc' := 69) (own := RX12) (tx := "risk") rfl (by decide) dX12_readClause_66 rfl ?_
          obtain ⟨h1, h⟩ := h
          obtain ⟨d1, b1, Qz, hm, hdd, hb, hkx, hk⟩ := h
          refine z_callV (Y := mX12_isWord) (n := 1) (as := [.ref (zp 1000 12)]) (st := [.int (192 + x1), .ref (zrv G1 q0 12)]) (pc' := 72) (ci := 13) (q := q0) hm dX12_readClause_69 kX12_213 vX12_isWord rfl rfl (by decide) rfl h1 hdd hb (Nat.le_of_ble_eq_true rfl) (fun r G13 hz => ?_) hkx
          obtain ⟨y12, rfl, h⟩ := hk r G13 hz
          refine z_if_eq (pt := 79) (pc' := 75) dX12_readClause_72 (by decide) rfl (fun hc => ?_) (fun hc => ?_)
          · have h := h.1 hc
            refine z_aload_n (pc' := 80) dX12_readClause_79 rfl rfl ?_
            refine z_ldcSW (n := 13) (pc' := 83) (own := RX12) (tx := "see") rfl (by decide) dX12_readClause_80 rfl ?_
            obtain ⟨h1, h⟩ := h
            obtain ⟨d1, b1, Qz, hm, hdd, hb, hkx, hk⟩ := h
            refine z_callV (Y := mX12_isWord) (n := 1) (as := [.ref (zp 1000 13)]) (st := [.int (192 + x1), .ref (zrv G1 q0 12)]) (pc' := 86) (ci := 13) (q := q0) hm dX12_readClause_83 kX12_213 vX12_isWord rfl rfl (by decide) rfl h1 hdd hb (Nat.le_of_ble_eq_true rfl) (fun r G16 hz => ?_) hkx
            obtain ⟨y15, rfl, h⟩ := hk r G16 hz
            refine z_if_eq (pt := 93) (pc' := 89) dX12_readClause_86 (by decide) rfl (fun hc => ?_) (fun hc => ?_)
            · have h := h.1 hc
              refine z_aload_n (pc' := 94) dX12_readClause_93 rfl rfl ?_
              refine z_ldcSW (n := 14) (pc' := 97) (own := RX12) (tx := "back") rfl (by decide) dX12_readClause_94 rfl ?_
              obtain ⟨h1, h⟩ := h
              obtain ⟨d1, b1, Qz, hm, hdd, hb, hkx, hk⟩ := h
              refine z_callV (Y := mX12_isWord) (n := 1) (as := [.ref (zp 1000 14)]) (st := [.int (192 + x1), .ref (zrv G1 q0 12)]) (pc' := 100) (ci := 13) (q := q0) hm dX12_readClause_97 kX12_213 vX12_isWord rfl rfl (by decide) rfl h1 hdd hb (Nat.le_of_ble_eq_true rfl) (fun r G19 hz => ?_) hkx
              obtain ⟨y18, rfl, h⟩ := hk r G19 hz
              refine z_if_eq (pt := 107) (pc' := 103) dX12_readClause_100 (by decide) rfl (fun hc => ?_) (fun hc => ?_)
              · have h := h.1 hc
                refine z_iconst (x := (-1)) (pc' := 108) dX12_readClause_107 (by decide) rfl ?_
                exact z_dr (ls' := [some (.ref q0), none, some (.int (192 + x1)), none]) ⟨rfl, rfl, trivial⟩ h
              · have h := h.2 hc
                refine z_iconst (x := 5) (pc' := 104) dX12_readClause_103 (by decide) rfl ?_
                refine z_goto (pc' := 108) dX12_readClause_104 (by decide) ?_
                exact z_dr (ls' := [some (.ref q0), none, some (.int (192 + x1)), none]) ⟨rfl, rfl, trivial⟩ h
            · have h := h.2 hc
              refine z_iconst (x := 4) (pc' := 90) dX12_readClause_89 (by decide) rfl ?_
              refine z_goto (pc' := 108) dX12_readClause_90 (by decide) ?_
              exact z_dr (ls' := [some (.ref q0), none, some (.int (192 + x1)), none]) ⟨rfl, rfl, trivial⟩ h
          · have h := h.2 hc
            refine z_iconst (x := 3) (pc' := 76) dX12_readClause_75 (by decide) rfl ?_
            refine z_goto (pc' := 108) dX12_readClause_76 (by decide) ?_
            exact z_dr (ls' := [some (.ref q0), none, some (.int (192 + x1)), none]) ⟨rfl, rfl, trivial⟩ h
        · have h := h.2 hc
          refine z_iconst (x := 2) (pc' := 62) dX12_readClause_61 (by decide) rfl ?_
          refine z_goto (pc' := 108) dX12_readClause_62 (by decide) ?_
          exact z_dr (ls' := [some (.ref q0), none, some (.int (192 + x1)), none]) ⟨rfl, rfl, trivial⟩ h
      · have h := h.2 hc
        refine z_iconst (x := 1) (pc' := 48) dX12_readClause_47 (by decide) rfl ?_
        refine z_goto (pc' := 108) dX12_readClause_48 (by decide) ?_
        exact z_dr (ls' := [some (.ref q0), none, some (.int (192 + x1)), none]) ⟨rfl, rfl, trivial⟩ h
    · have h := h.2 hc
      refine z_iconst (x := 0) (pc' := 34) dX12_readClause_33 (by decide) rfl ?_
      refine z_goto (pc' := 108) dX12_readClause_34 (by decide) ?_
      exact z_dr (ls' := [some (.ref q0), none, some (.int (192 + x1)), none]) ⟨rfl, rfl, trivial⟩ h
  · have h := h.2 hc
    refine z_iconst (x := 0) (pc' := 11) dX12_readClause_10 (by decide) rfl ?_
    exact z_zret (ty := .boolean) dX12_readClause_11 rfl (by decide) h
def wp_X12_readClause_108 (E : ZE) (l : Launch) (d b : Nat) (G0 : ZG) (Q : ZQ) (k : Nat) (q0 : Nat) (x2 : Int32) (s0 : Int32) (s1 : Int32) (p2 : Nat) (G : ZG) : Prop :=
  zar G p2 0 ∧ vp_in s1 (zln G p2) ∧
  ∀ G1, G1 = zsi G p2 s1.toNatClampNeg s0 →
  zob G1 q0 13 ∧
  (zar G1 (zrv G1 q0 12) 0 ∨ zrd G1 (zrv G1 q0 12) .int) ∧ vp_in x2 (zln G1 (zrv G1 q0 12)) ∧
  ((0 ≤ (ziv G1 (zrv G1 q0 12) x2.toNatClampNeg) →
    zob G1 q0 13 ∧
    (zar G1 (zrv G1 q0 12) 0 ∨ zrd G1 (zrv G1 q0 12) .int) ∧ vp_in x2 (zln G1 (zrv G1 q0 12)) ∧
    ((¬ (ziv G1 (zrv G1 q0 12) x2.toNatClampNeg) = 0 →
      zob G1 q0 13 ∧
      (zar G1 (zrv G1 q0 12) 0 ∨ zrd G1 (zrv G1 q0 12) .int) ∧ vp_in x2 (zln G1 (zrv G1 q0 12)) ∧
      (((ziv G1 (zrv G1 q0 12) x2.toNatClampNeg) = 4 →
        zW E l mX12_readClause d b G0 Q k 209 [some (.ref q0), none, some (.int x2), none] [] G1) ∧
      (¬ ((ziv G1 (zrv G1 q0 12) x2.toNatClampNeg) = 4) →
        zob G1 q0 13 ∧
        zob G1 q0 13 ∧
        xcI E l mX12_number d [.ref q0] G1 k (fun X G9 => Q (.inr X) G9) (fun y2 G3 k4 =>
        zar G3 (zrv G1 q0 13) 0 ∧ vp_in x2 (zln G3 (zrv G1 q0 13)) ∧
        ∀ G5, G5 = zsi G3 (zrv G1 q0 13) x2.toNatClampNeg y2 →
        zob G5 q0 13 ∧
        (zar G5 (zrv G5 q0 13) 0 ∨ zrd G5 (zrv G5 q0 13) .int) ∧ vp_in x2 (zln G5 (zrv G5 q0 13)) ∧
        ((0 ≤ (ziv G5 (zrv G5 q0 13) x2.toNatClampNeg) →
          zW E l mX12_readClause d b G0 Q k4 209 [some (.ref q0), none, some (.int x2), none] [] G5) ∧
        (¬ (0 ≤ (ziv G5 (zrv G5 q0 13) x2.toNatClampNeg)) →
          Q (.inl (some (.int 0))) G5)))))) ∧
    (¬ (¬ (ziv G1 (zrv G1 q0 12) x2.toNatClampNeg) = 0) →
      zob G1 q0 13 ∧
      xcV E l mX12_word d [.ref q0] G1 k (fun X G9 => Q (.inr X) G9) (fun G6 k7 =>
      zW E l mX12_readClause d b G0 Q k7 135 [some (.ref q0), none, some (.int x2), some (.int 0)] [] G6)))) ∧
  (¬ (0 ≤ (ziv G1 (zrv G1 q0 12) x2.toNatClampNeg)) →
    Q (.inl (some (.int 0))) G1))
theorem wpt_X12_readClause_108 {E : ZE} {l : Launch} {d b : Nat} {G0 : ZG} {Q : ZQ} {k : Nat} {q0 : Nat} {x2 : Int32} {s0 : Int32} {s1 : Int32} {p2 : Nat} {G : ZG} (h : wp_X12_readClause_108 E l d b G0 Q k q0 x2 s0 s1 p2 G) : zW E l mX12_readClause d b G0 Q k 108 [some (.ref q0), none, some (.int x2), none] [.int s0, .int s1, .ref p2] G := by
  unfold wp_X12_readClause_108 at h
  obtain ⟨h1, h2, h⟩ := h
  obtain ⟨G1, hG⟩ : ∃ z, z = zsi G p2 s1.toNatClampNeg s0 := ⟨_, rfl⟩
  have h := h _ hG
  refine z_iast (pc' := 109) dX12_readClause_108 rfl h1 h2  ?_
  refine z_st hG ?_
  refine z_aload_n (pc' := 110) dX12_readClause_109 rfl rfl ?_
  obtain ⟨h1, h⟩ := h
  refine z_getR (ci := 13) (kf := 12) (pc' := 113) dX12_readClause_110 kX12_27 (Or.inl rfl) (by decide) (by decide) rfl rfl h1 ?_
  refine z_iload_n (pc' := 114) dX12_readClause_113 rfl rfl ?_
  obtain ⟨h1, h2, h⟩ := h
  refine z_iald (pc' := 115) dX12_readClause_114 rfl h1 h2 ?_
  refine z_if_ge (pt := 120) (pc' := 118) dX12_readClause_115 (by decide) rfl (fun hc => ?_) (fun hc => ?_)
  · have h := h.1 hc
    refine z_aload_n (pc' := 121) dX12_readClause_120 rfl rfl ?_
    obtain ⟨h1, h⟩ := h
    refine z_getR (ci := 13) (kf := 12) (pc' := 124) dX12_readClause_121 kX12_27 (Or.inl rfl) (by decide) (by decide) rfl rfl h1 ?_
    refine z_iload_n (pc' := 125) dX12_readClause_124 rfl rfl ?_
    obtain ⟨h1, h2, h⟩ := h
    refine z_iald (pc' := 126) dX12_readClause_125 rfl h1 h2 ?_
    refine z_if_ne (pt := 178) (pc' := 129) dX12_readClause_126 (by decide) rfl (fun hc => ?_) (fun hc => ?_)
    · have h := h.1 hc
      refine z_aload_n (pc' := 179) dX12_readClause_178 rfl rfl ?_
      obtain ⟨h1, h⟩ := h
      refine z_getR (ci := 13) (kf := 12) (pc' := 182) dX12_readClause_179 kX12_27 (Or.inl rfl) (by decide) (by decide) rfl rfl h1 ?_
      refine z_iload_n (pc' := 183) dX12_readClause_182 rfl rfl ?_
      obtain ⟨h1, h2, h⟩ := h
      refine z_iald (pc' := 184) dX12_readClause_183 rfl h1 h2 ?_
      refine z_iconst (x := 4) (pc' := 185) dX12_readClause_184 (by decide) rfl ?_
      refine z_icmp_eq (pt := 209) (pc' := 188) dX12_readClause_185 (by decide) rfl (fun hc => ?_) (fun hc => ?_)
      · have h := h.1 hc
        exact z_dr (ls' := [some (.ref q0), none, some (.int x2), none]) ⟨rfl, rfl, trivial⟩ h
      · have h := h.2 hc
        refine z_aload_n (pc' := 189) dX12_readClause_188 rfl rfl ?_
        obtain ⟨h1, h⟩ := h
        refine z_getR (ci := 13) (kf := 13) (pc' := 192) dX12_readClause_189 kX12_30 (Or.inl rfl) (by decide) (by decide) rfl rfl h1 ?_
        refine z_iload_n (pc' := 193) dX12_readClause_192 rfl rfl ?_
        refine z_aload_n (pc' := 194) dX12_readClause_193 rfl rfl ?_
        obtain ⟨h1, h⟩ := h
        obtain ⟨d1, b1, Qz, hm, hdd, hb, hkx, hk⟩ := h
        refine z_callV (Y := mX12_number) (n := 0) (as := []) (st := [.int x2, .ref (zrv G1 q0 13)]) (pc' := 197) (ci := 13) (q := q0) hm dX12_readClause_194 kX12_281 vX12_number rfl rfl (by decide) rfl h1 hdd hb (Nat.le_of_ble_eq_true rfl) (fun r G3 hz => ?_) hkx
        obtain ⟨y2, rfl, h⟩ := hk r G3 hz
        obtain ⟨h1, h2, h⟩ := h
        obtain ⟨G5, hG⟩ : ∃ z, z = zsi G3 (zrv G1 q0 13) x2.toNatClampNeg y2 := ⟨_, rfl⟩
        have h := h _ hG
        refine z_iast (pc' := 198) dX12_readClause_197 rfl h1 h2  ?_
        refine z_st hG ?_
        refine z_aload_n (pc' := 199) dX12_readClause_198 rfl rfl ?_
        obtain ⟨h1, h⟩ := h
        refine z_getR (ci := 13) (kf := 13) (pc' := 202) dX12_readClause_199 kX12_30 (Or.inl rfl) (by decide) (by decide) rfl rfl h1 ?_
        refine z_iload_n (pc' := 203) dX12_readClause_202 rfl rfl ?_
        obtain ⟨h1, h2, h⟩ := h
        refine z_iald (pc' := 204) dX12_readClause_203 rfl h1 h2 ?_
        refine z_if_ge (pt := 209) (pc' := 207) dX12_readClause_204 (by decide) rfl (fun hc => ?_) (fun hc => ?_)
        · have h := h.1 hc
          exact z_dr (ls' := [some (.ref q0), none, some (.int x2), none]) ⟨rfl, rfl, trivial⟩ h
        · have h := h.2 hc
          refine z_iconst (x := 0) (pc' := 208) dX12_readClause_207 (by decide) rfl ?_
          exact z_zret (ty := .boolean) dX12_readClause_208 rfl (by decide) h
    · have h := h.2 hc
      refine z_aload_n (pc' := 130) dX12_readClause_129 rfl rfl ?_
      obtain ⟨h1, h⟩ := h
      obtain ⟨d1, b1, Qz, hm, hdd, hb, hkx, hk⟩ := h
      refine z_callV (Y := mX12_word) (n := 0) (as := []) (st := []) (pc' := 133) (ci := 13) (q := q0) hm dX12_readClause_130 kX12_210 vX12_word rfl rfl (by decide) rfl h1 hdd hb (Nat.le_of_ble_eq_true rfl) (fun r G6 hz => ?_) hkx
      obtain ⟨rfl, h⟩ := hk r G6 hz
      refine z_iconst (x := 0) (pc' := 134) dX12_readClause_133 (by decide) rfl ?_
      refine z_istore_n (pc' := 135) dX12_readClause_134 (by decide) rfl ?_
      exact z_dr (ls' := [some (.ref q0), none, some (.int x2), some (.int 0)]) ⟨rfl, rfl, rfl, trivial⟩ h
  · have h := h.2 hc
    refine z_iconst (x := 0) (pc' := 119) dX12_readClause_118 (by decide) rfl ?_
    exact z_zret (ty := .boolean) dX12_readClause_119 rfl (by decide) h
def wp_X12_readClause_135 (E : ZE) (l : Launch) (d b : Nat) (G0 : ZG) (Q : ZQ) (k : Nat) (q0 : Nat) (x2 : Int32) (x3 : Int32) (G : ZG) : Prop :=
  ((8 ≤ x3 →
    ((¬ x3 = 8 →
      zob G q0 13 ∧
      zar G (zrv G q0 13) 0 ∧ vp_in x2 (zln G (zrv G q0 13)) ∧
      ∀ G1, G1 = zsi G (zrv G q0 13) x2.toNatClampNeg (1 <<< (x3 &&& 31)) →
      zW E l mX12_readClause d b G0 Q k 209 [some (.ref q0), none, some (.int x2), none] [] G1) ∧
    (¬ (¬ x3 = 8) →
      Q (.inl (some (.int 0))) G))) ∧
  (¬ (8 ≤ x3) →
    xcR E l mX12_item d [.int x3] G k (fun X G9 => Q (.inr X) G9) (fun y2 G3 k4 =>
    zob G3 q0 13 ∧
    xcI E l mX12_isWord d [.ref q0, .ref y2] G3 k4 (fun X G9 => Q (.inr X) G9) (fun y5 G6 k7 =>
    ((¬ y5 = 0 →
      ((¬ x3 = 8 →
        zob G6 q0 13 ∧
        zar G6 (zrv G6 q0 13) 0 ∧ vp_in x2 (zln G6 (zrv G6 q0 13)) ∧
        ∀ G8, G8 = zsi G6 (zrv G6 q0 13) x2.toNatClampNeg (1 <<< (x3 &&& 31)) →
        zW E l mX12_readClause d b G0 Q k7 209 [some (.ref q0), none, some (.int x2), none] [] G8) ∧
      (¬ (¬ x3 = 8) →
        Q (.inl (some (.int 0))) G6))) ∧
    (¬ (¬ y5 = 0) →
      zW E l mX12_readClause d b G0 Q k7 135 [some (.ref q0), none, some (.int x2), some (.int (x3 + 1))] [] G6))))))
theorem wpt_X12_readClause_135 {E : ZE} {l : Launch} {d b : Nat} {G0 : ZG} {Q : ZQ} {k : Nat} {q0 : Nat} {x2 : Int32} {x3 : Int32} {G : ZG} (h : wp_X12_readClause_135 E l d b G0 Q k q0 x2 x3 G) : zW E l mX12_readClause d b G0 Q k 135 [some (.ref q0), none, some (.int x2), some (.int x3)] [] G := by
  unfold wp_X12_readClause_135 at h
  refine z_iload_n (pc' := 136) dX12_readClause_135 rfl rfl ?_
  refine z_bipush (x := 8) (pc' := 138) dX12_readClause_136 (by decide) rfl ?_
  refine z_icmp_ge (pt := 158) (pc' := 141) dX12_readClause_138 (by decide) rfl (fun hc => ?_) (fun hc => ?_)
  · have h := h.1 hc
    refine z_iload_n (pc' := 159) dX12_readClause_158 rfl rfl ?_
    refine z_bipush (x := 8) (pc' := 161) dX12_readClause_159 (by decide) rfl ?_
    refine z_icmp_ne (pt := 166) (pc' := 164) dX12_readClause_161 (by decide) rfl (fun hc => ?_) (fun hc => ?_)
    · have h := h.1 hc
      refine z_aload_n (pc' := 167) dX12_readClause_166 rfl rfl ?_
      obtain ⟨h1, h⟩ := h
      refine z_getR (ci := 13) (kf := 13) (pc' := 170) dX12_readClause_167 kX12_30 (Or.inl rfl) (by decide) (by decide) rfl rfl h1 ?_
      refine z_iload_n (pc' := 171) dX12_readClause_170 rfl rfl ?_
      refine z_iconst (x := 1) (pc' := 172) dX12_readClause_171 (by decide) rfl ?_
      refine z_iload_n (pc' := 173) dX12_readClause_172 rfl rfl ?_
      refine z_ishl (pc' := 174) dX12_readClause_173 rfl rfl ?_
      obtain ⟨h1, h2, h⟩ := h
      obtain ⟨G1, hG⟩ : ∃ z, z = zsi G (zrv G q0 13) x2.toNatClampNeg (1 <<< (x3 &&& 31)) := ⟨_, rfl⟩
      have h := h _ hG
      refine z_iast (pc' := 175) dX12_readClause_174 rfl h1 h2  ?_
      refine z_st hG ?_
      refine z_goto (pc' := 209) dX12_readClause_175 (by decide) ?_
      exact z_dr (ls' := [some (.ref q0), none, some (.int x2), none]) ⟨rfl, rfl, trivial⟩ h
    · have h := h.2 hc
      refine z_iconst (x := 0) (pc' := 165) dX12_readClause_164 (by decide) rfl ?_
      exact z_zret (ty := .boolean) dX12_readClause_165 rfl (by decide) h
  · have h := h.2 hc
    refine z_aload_n (pc' := 142) dX12_readClause_141 rfl rfl ?_
    refine z_iload_n (pc' := 143) dX12_readClause_142 rfl rfl ?_
    obtain ⟨d1, b1, Qz, hm, hdd, hb, hkx, hk⟩ := h
    refine z_callS (Y := mX12_item) (n := 1) (as := [.int x3]) (st := [.ref q0]) (pc' := 146) hm dX12_readClause_143 kX12_303 sX12_item rfl rfl hdd hb (Nat.le_of_ble_eq_true rfl) (fun r G3 hz => ?_) hkx
    obtain ⟨y2, rfl, h⟩ := hk r G3 hz
    obtain ⟨h1, h⟩ := h
    obtain ⟨d1, b1, Qz, hm, hdd, hb, hkx, hk⟩ := h
    refine z_callV (Y := mX12_isWord) (n := 1) (as := [.ref y2]) (st := []) (pc' := 149) (ci := 13) (q := q0) hm dX12_readClause_146 kX12_213 vX12_isWord rfl rfl (by decide) rfl h1 hdd hb (Nat.le_of_ble_eq_true rfl) (fun r G6 hz => ?_) hkx
    obtain ⟨y5, rfl, h⟩ := hk r G6 hz
    refine z_if_ne (pt := 158) (pc' := 152) dX12_readClause_149 (by decide) rfl (fun hc => ?_) (fun hc => ?_)
    · have h := h.1 hc
      refine z_iload_n (pc' := 159) dX12_readClause_158 rfl rfl ?_
      refine z_bipush (x := 8) (pc' := 161) dX12_readClause_159 (by decide) rfl ?_
      refine z_icmp_ne (pt := 166) (pc' := 164) dX12_readClause_161 (by decide) rfl (fun hc => ?_) (fun hc => ?_)
      · have h := h.1 hc
        refine z_aload_n (pc' := 167) dX12_readClause_166 rfl rfl ?_
        obtain ⟨h1, h⟩ := h
        refine z_getR (ci := 13) (kf := 13) (pc' := 170) dX12_readClause_167 kX12_30 (Or.inl rfl) (by decide) (by decide) rfl rfl h1 ?_
        refine z_iload_n (pc' := 171) dX12_readClause_170 rfl rfl ?_
        refine z_iconst (x := 1) (pc' := 172) dX12_readClause_171 (by decide) rfl ?_
        refine z_iload_n (pc' := 173) dX12_readClause_172 rfl rfl ?_
        refine z_ishl (pc' := 174) dX12_readClause_173 rfl rfl ?_
        obtain ⟨h1, h2, h⟩ := h
        obtain ⟨G8, hG⟩ : ∃ z, z = zsi G6 (zrv G6 q0 13) x2.toNatClampNeg (1 <<< (x3 &&& 31)) := ⟨_, rfl⟩
        have h := h _ hG
        refine z_iast (pc' := 175) dX12_readClause_174 rfl h1 h2  ?_
        refine z_st hG ?_
        refine z_goto (pc' := 209) dX12_readClause_175 (by decide) ?_
        exact z_dr (ls' := [some (.ref q0), none, some (.int x2), none]) ⟨rfl, rfl, trivial⟩ h
      · have h := h.2 hc
        refine z_iconst (x := 0) (pc' := 165) dX12_readClause_164 (by decide) rfl ?_
        exact z_zret (ty := .boolean) dX12_readClause_165 rfl (by decide) h
    · have h := h.2 hc
      refine z_iinc (y := x3 + 1) (pc' := 155) dX12_readClause_152 rfl (zinc_1 _) (by decide) rfl ?_
      refine z_goto (pc' := 135) dX12_readClause_155 (by decide) ?_
      exact z_dr (ls' := [some (.ref q0), none, some (.int x2), some (.int (x3 + 1))]) ⟨rfl, rfl, rfl, trivial⟩ h
def wp_X12_readClause_209 (E : ZE) (l : Launch) (d b : Nat) (G0 : ZG) (Q : ZQ) (k : Nat) (q0 : Nat) (x2 : Int32) (G : ZG) : Prop :=
  zob G q0 13 ∧
  zob G q0 13 ∧
  zar G (zrv G q0 14) 0 ∧ vp_in x2 (zln G (zrv G q0 14)) ∧
  ∀ G1, G1 = zsi G (zrv G q0 14) x2.toNatClampNeg (ziv G q0 20) →
  zob G1 q0 13 ∧
  xcI E l mX12_passes d [.ref q0, .ref (zp 1000 2)] G1 k (fun X G9 => Q (.inr X) G9) (fun y2 G3 k4 =>
  ((y2 = 0 →
    zob G3 q0 13 ∧
    zob G3 q0 13 ∧
    zar G3 (zrv G3 q0 15) 0 ∧ vp_in x2 (zln G3 (zrv G3 q0 15)) ∧
    ∀ G5, G5 = zsi G3 (zrv G3 q0 15) x2.toNatClampNeg (ziv G3 q0 20) →
    Q (.inl (some (.int 1))) G5) ∧
  (¬ (y2 = 0) →
    zob G3 q0 13 ∧
    ∀ G6, G6 = zsi G3 q0 7 0 →
    zob G6 q0 13 ∧
    xcI E l mX12_readCond d [.ref q0] G6 k4 (fun X G9 => Q (.inr X) G9) (fun y7 G8 k9 =>
    ((¬ y7 = 0 →
      zob G8 q0 13 ∧
      zob G8 q0 13 ∧
      zar G8 (zrv G8 q0 15) 0 ∧ vp_in x2 (zln G8 (zrv G8 q0 15)) ∧
      ∀ G10, G10 = zsi G8 (zrv G8 q0 15) x2.toNatClampNeg (ziv G8 q0 20) →
      Q (.inl (some (.int 1))) G10) ∧
    (¬ (¬ y7 = 0) →
      Q (.inl (some (.int 0))) G8))))))
theorem wpt_X12_readClause_209 {E : ZE} {l : Launch} {d b : Nat} {G0 : ZG} {Q : ZQ} {k : Nat} {q0 : Nat} {x2 : Int32} {G : ZG} (h : wp_X12_readClause_209 E l d b G0 Q k q0 x2 G) : zW E l mX12_readClause d b G0 Q k 209 [some (.ref q0), none, some (.int x2), none] [] G := by
  unfold wp_X12_readClause_209 at h
  refine z_aload_n (pc' := 210) dX12_readClause_209 rfl rfl ?_
  obtain ⟨h1, h⟩ := h
  refine z_getR (ci := 13) (kf := 14) (pc' := 213) dX12_readClause_210 kX12_33 (Or.inl rfl) (by decide) (by decide) rfl rfl h1 ?_
  refine z_iload_n (pc' := 214) dX12_readClause_213 rfl rfl ?_
  refine z_aload_n (pc' := 215) dX12_readClause_214 rfl rfl ?_
  obtain ⟨h1, h⟩ := h
  refine z_getI (ci := 13) (kf := 20) (pc' := 218) dX12_readClause_215 kX12_217 (Or.inl rfl) (by decide) (by decide) rfl rfl h1 ?_
  obtain ⟨h1, h2, h⟩ := h
  obtain ⟨G1, hG⟩ : ∃ z, z = zsi G (zrv G q0 14) x2.toNatClampNeg (ziv G q0 20) := ⟨_, rfl⟩
  have h := h _ hG
  refine z_iast (pc' := 219) dX12_readClause_218 rfl h1 h2  ?_
  refine z_st hG ?_
  refine z_aload_n (pc' := 220) dX12_readClause_219 rfl rfl ?_
  refine z_ldcSW (n := 2) (pc' := 223) (own := RX12) (tx := "if") rfl (by decide) dX12_readClause_220 rfl ?_
  obtain ⟨h1, h⟩ := h
  obtain ⟨d1, b1, Qz, hm, hdd, hb, hkx, hk⟩ := h
  refine z_callV (Y := mX12_passes) (n := 1) (as := [.ref (zp 1000 2)]) (st := []) (pc' := 226) (ci := 13) (q := q0) hm dX12_readClause_223 kX12_267 vX12_passes rfl rfl (by decide) rfl h1 hdd hb (Nat.le_of_ble_eq_true rfl) (fun r G3 hz => ?_) hkx
  obtain ⟨y2, rfl, h⟩ := hk r G3 hz
  refine z_if_eq (pt := 243) (pc' := 229) dX12_readClause_226 (by decide) rfl (fun hc => ?_) (fun hc => ?_)
  · have h := h.1 hc
    refine z_aload_n (pc' := 244) dX12_readClause_243 rfl rfl ?_
    obtain ⟨h1, h⟩ := h
    refine z_getR (ci := 13) (kf := 15) (pc' := 247) dX12_readClause_244 kX12_36 (Or.inl rfl) (by decide) (by decide) rfl rfl h1 ?_
    refine z_iload_n (pc' := 248) dX12_readClause_247 rfl rfl ?_
    refine z_aload_n (pc' := 249) dX12_readClause_248 rfl rfl ?_
    obtain ⟨h1, h⟩ := h
    refine z_getI (ci := 13) (kf := 20) (pc' := 252) dX12_readClause_249 kX12_217 (Or.inl rfl) (by decide) (by decide) rfl rfl h1 ?_
    obtain ⟨h1, h2, h⟩ := h
    obtain ⟨G5, hG⟩ : ∃ z, z = zsi G3 (zrv G3 q0 15) x2.toNatClampNeg (ziv G3 q0 20) := ⟨_, rfl⟩
    have h := h _ hG
    refine z_iast (pc' := 253) dX12_readClause_252 rfl h1 h2  ?_
    refine z_st hG ?_
    refine z_iconst (x := 1) (pc' := 254) dX12_readClause_253 (by decide) rfl ?_
    exact z_zret (ty := .boolean) dX12_readClause_254 rfl (by decide) h
  · have h := h.2 hc
    refine z_aload_n (pc' := 230) dX12_readClause_229 rfl rfl ?_
    refine z_iconst (x := 0) (pc' := 231) dX12_readClause_230 (by decide) rfl ?_
    obtain ⟨h1, h⟩ := h
    obtain ⟨G6, hG⟩ : ∃ z, z = zsi G3 q0 7 0 := ⟨_, rfl⟩
    have h := h _ hG
    refine z_putI (ci := 13) (kf := 7) (pc' := 234) dX12_readClause_231 kX12_258 (Or.inl rfl) (by decide) (by decide) rfl (Or.inl rfl) rfl h1 (zok_int _) ?_
    refine z_st hG ?_
    refine z_aload_n (pc' := 235) dX12_readClause_234 rfl rfl ?_
    obtain ⟨h1, h⟩ := h
    obtain ⟨d1, b1, Qz, hm, hdd, hb, hkx, hk⟩ := h
    refine z_callV (Y := mX12_readCond) (n := 0) (as := []) (st := []) (pc' := 238) (ci := 13) (q := q0) hm dX12_readClause_235 kX12_261 vX12_readCond rfl rfl (by decide) rfl h1 hdd hb (Nat.le_of_ble_eq_true rfl) (fun r G8 hz => ?_) hkx
    obtain ⟨y7, rfl, h⟩ := hk r G8 hz
    refine z_if_ne (pt := 243) (pc' := 241) dX12_readClause_238 (by decide) rfl (fun hc => ?_) (fun hc => ?_)
    · have h := h.1 hc
      refine z_aload_n (pc' := 244) dX12_readClause_243 rfl rfl ?_
      obtain ⟨h1, h⟩ := h
      refine z_getR (ci := 13) (kf := 15) (pc' := 247) dX12_readClause_244 kX12_36 (Or.inl rfl) (by decide) (by decide) rfl rfl h1 ?_
      refine z_iload_n (pc' := 248) dX12_readClause_247 rfl rfl ?_
      refine z_aload_n (pc' := 249) dX12_readClause_248 rfl rfl ?_
      obtain ⟨h1, h⟩ := h
      refine z_getI (ci := 13) (kf := 20) (pc' := 252) dX12_readClause_249 kX12_217 (Or.inl rfl) (by decide) (by decide) rfl rfl h1 ?_
      obtain ⟨h1, h2, h⟩ := h
      obtain ⟨G10, hG⟩ : ∃ z, z = zsi G8 (zrv G8 q0 15) x2.toNatClampNeg (ziv G8 q0 20) := ⟨_, rfl⟩
      have h := h _ hG
      refine z_iast (pc' := 253) dX12_readClause_252 rfl h1 h2  ?_
      refine z_st hG ?_
      refine z_iconst (x := 1) (pc' := 254) dX12_readClause_253 (by decide) rfl ?_
      exact z_zret (ty := .boolean) dX12_readClause_254 rfl (by decide) h
    · have h := h.2 hc
      refine z_iconst (x := 0) (pc' := 242) dX12_readClause_241 (by decide) rfl ?_
      exact z_zret (ty := .boolean) dX12_readClause_242 rfl (by decide) h
def wp_X12_readCond_0 (E : ZE) (l : Launch) (d b : Nat) (G0 : ZG) (Q : ZQ) (k : Nat) (q0 : Nat) (G : ZG) : Prop :=
  zob G q0 13 ∧
  xcI E l mX12_readAllOf d [.ref q0] G k (fun X G9 => Q (.inr X) G9) (fun y1 G2 k3 =>
  ((¬ y1 = 0 →
    zW E l mX12_readCond d b G0 Q k3 9 [some (.ref q0)] [] G2) ∧
  (¬ (¬ y1 = 0) →
    Q (.inl (some (.int 0))) G2)))
theorem wpt_X12_readCond_0 {E : ZE} {l : Launch} {d b : Nat} {G0 : ZG} {Q : ZQ} {k : Nat} {q0 : Nat} {G : ZG} (h : wp_X12_readCond_0 E l d b G0 Q k q0 G) : zW E l mX12_readCond d b G0 Q k 0 [some (.ref q0)] [] G := by
  unfold wp_X12_readCond_0 at h
  refine z_aload_n (pc' := 1) dX12_readCond_0 rfl rfl ?_
  obtain ⟨h1, h⟩ := h
  obtain ⟨d1, b1, Qz, hm, hdd, hb, hkx, hk⟩ := h
  refine z_callV (Y := mX12_readAllOf) (n := 0) (as := []) (st := []) (pc' := 4) (ci := 13) (q := q0) hm dX12_readCond_1 kX12_286 vX12_readAllOf rfl rfl (by decide) rfl h1 hdd hb (Nat.le_of_ble_eq_true rfl) (fun r G2 hz => ?_) hkx
  obtain ⟨y1, rfl, h⟩ := hk r G2 hz
  refine z_if_ne (pt := 9) (pc' := 7) dX12_readCond_4 (by decide) rfl (fun hc => ?_) (fun hc => ?_)
  · have h := h.1 hc
    exact z_dr (ls' := [some (.ref q0)]) ⟨rfl, trivial⟩ h
  · have h := h.2 hc
    refine z_iconst (x := 0) (pc' := 8) dX12_readCond_7 (by decide) rfl ?_
    exact z_zret (ty := .boolean) dX12_readCond_8 rfl (by decide) h
def wp_X12_readCond_9 (E : ZE) (l : Launch) (d b : Nat) (G0 : ZG) (Q : ZQ) (k : Nat) (q0 : Nat) (G : ZG) : Prop :=
  zob G q0 13 ∧
  xcI E l mX12_passes d [.ref q0, .ref (zp 1000 6)] G k (fun X G9 => Q (.inr X) G9) (fun y1 G2 k3 =>
  ((y1 = 0 →
    Q (.inl (some (.int 1))) G2) ∧
  (¬ (y1 = 0) →
    zob G2 q0 13 ∧
    xcI E l mX12_readAllOf d [.ref q0] G2 k3 (fun X G9 => Q (.inr X) G9) (fun y4 G5 k6 =>
    ((¬ y4 = 0 →
      zob G5 q0 13 ∧
      xcV E l mX12_adds d [.ref q0, .int 102, .int 0, .int 0] G5 k6 (fun X G9 => Q (.inr X) G9) (fun G7 k8 =>
      zW E l mX12_readCond d b G0 Q k8 9 [some (.ref q0)] [] G7)) ∧
    (¬ (¬ y4 = 0) →
      Q (.inl (some (.int 0))) G5))))))
theorem wpt_X12_readCond_9 {E : ZE} {l : Launch} {d b : Nat} {G0 : ZG} {Q : ZQ} {k : Nat} {q0 : Nat} {G : ZG} (h : wp_X12_readCond_9 E l d b G0 Q k q0 G) : zW E l mX12_readCond d b G0 Q k 9 [some (.ref q0)] [] G := by
  unfold wp_X12_readCond_9 at h
  refine z_aload_n (pc' := 10) dX12_readCond_9 rfl rfl ?_
  refine z_ldcSW (n := 6) (pc' := 13) (own := RX12) (tx := "or") rfl (by decide) dX12_readCond_10 rfl ?_
  obtain ⟨h1, h⟩ := h
  obtain ⟨d1, b1, Qz, hm, hdd, hb, hkx, hk⟩ := h
  refine z_callV (Y := mX12_passes) (n := 1) (as := [.ref (zp 1000 6)]) (st := []) (pc' := 16) (ci := 13) (q := q0) hm dX12_readCond_13 kX12_267 vX12_passes rfl rfl (by decide) rfl h1 hdd hb (Nat.le_of_ble_eq_true rfl) (fun r G2 hz => ?_) hkx
  obtain ⟨y1, rfl, h⟩ := hk r G2 hz
  refine z_if_eq (pt := 39) (pc' := 19) dX12_readCond_16 (by decide) rfl (fun hc => ?_) (fun hc => ?_)
  · have h := h.1 hc
    refine z_iconst (x := 1) (pc' := 40) dX12_readCond_39 (by decide) rfl ?_
    exact z_zret (ty := .boolean) dX12_readCond_40 rfl (by decide) h
  · have h := h.2 hc
    refine z_aload_n (pc' := 20) dX12_readCond_19 rfl rfl ?_
    obtain ⟨h1, h⟩ := h
    obtain ⟨d1, b1, Qz, hm, hdd, hb, hkx, hk⟩ := h
    refine z_callV (Y := mX12_readAllOf) (n := 0) (as := []) (st := []) (pc' := 23) (ci := 13) (q := q0) hm dX12_readCond_20 kX12_286 vX12_readAllOf rfl rfl (by decide) rfl h1 hdd hb (Nat.le_of_ble_eq_true rfl) (fun r G5 hz => ?_) hkx
    obtain ⟨y4, rfl, h⟩ := hk r G5 hz
    refine z_if_ne (pt := 28) (pc' := 26) dX12_readCond_23 (by decide) rfl (fun hc => ?_) (fun hc => ?_)
    · have h := h.1 hc
      refine z_aload_n (pc' := 29) dX12_readCond_28 rfl rfl ?_
      refine z_bipush (x := 102) (pc' := 31) dX12_readCond_29 (by decide) rfl ?_
      refine z_iconst (x := 0) (pc' := 32) dX12_readCond_31 (by decide) rfl ?_
      refine z_iconst (x := 0) (pc' := 33) dX12_readCond_32 (by decide) rfl ?_
      obtain ⟨h1, h⟩ := h
      obtain ⟨d1, b1, Qz, hm, hdd, hb, hkx, hk⟩ := h
      refine z_callV (Y := mX12_adds) (n := 3) (as := [.int 102, .int 0, .int 0]) (st := []) (pc' := 36) (ci := 13) (q := q0) hm dX12_readCond_33 kX12_273 vX12_adds rfl rfl (by decide) rfl h1 hdd hb (Nat.le_of_ble_eq_true rfl) (fun r G7 hz => ?_) hkx
      obtain ⟨rfl, h⟩ := hk r G7 hz
      refine z_goto (pc' := 9) dX12_readCond_36 (by decide) ?_
      exact z_dr (ls' := [some (.ref q0)]) ⟨rfl, trivial⟩ h
    · have h := h.2 hc
      refine z_iconst (x := 0) (pc' := 27) dX12_readCond_26 (by decide) rfl ?_
      exact z_zret (ty := .boolean) dX12_readCond_27 rfl (by decide) h
def wp_X12_readLaw_0 (E : ZE) (l : Launch) (d b : Nat) (G0 : ZG) (Q : ZQ) (k : Nat) (q0 : Nat) (G : ZG) : Prop :=
  zob G q0 13 ∧
  ∀ G1, G1 = zsi G q0 20 0 →
  zob G1 q0 13 ∧
  xcV E l mX12_blanksBetween d [.ref q0] G1 k (fun X G9 => Q (.inr X) G9) (fun G2 k3 =>
  zob G2 q0 13 ∧
  zob G2 q0 13 ∧
  ((¬ (ziv G2 q0 4) = (ziv G2 q0 5) →
    zW E l mX12_readLaw d b G0 Q k3 24 [some (.ref q0), some (.int 0)] [] G2) ∧
  (¬ (¬ (ziv G2 q0 4) = (ziv G2 q0 5)) →
    Q (.inl (some (.int 0))) G2)))
theorem wpt_X12_readLaw_0 {E : ZE} {l : Launch} {d b : Nat} {G0 : ZG} {Q : ZQ} {k : Nat} {q0 : Nat} {G : ZG} (h : wp_X12_readLaw_0 E l d b G0 Q k q0 G) : zW E l mX12_readLaw d b G0 Q k 0 [some (.ref q0), none] [] G := by
  unfold wp_X12_readLaw_0 at h
  refine z_aload_n (pc' := 1) dX12_readLaw_0 rfl rfl ?_
  refine z_iconst (x := 0) (pc' := 2) dX12_readLaw_1 (by decide) rfl ?_
  obtain ⟨h1, h⟩ := h
  obtain ⟨G1, hG⟩ : ∃ z, z = zsi G q0 20 0 := ⟨_, rfl⟩
  have h := h _ hG
  refine z_putI (ci := 13) (kf := 20) (pc' := 5) dX12_readLaw_2 kX12_217 (Or.inl rfl) (by decide) (by decide) rfl (Or.inl rfl) rfl h1 (zok_int _) ?_
  refine z_st hG ?_
  refine z_aload_n (pc' := 6) dX12_readLaw_5 rfl rfl ?_
  obtain ⟨h1, h⟩ := h
  obtain ⟨d1, b1, Qz, hm, hdd, hb, hkx, hk⟩ := h
  refine z_callV (Y := mX12_blanksBetween) (n := 0) (as := []) (st := []) (pc' := 9) (ci := 13) (q := q0) hm dX12_readLaw_6 kX12_197 vX12_blanksBetween rfl rfl (by decide) rfl h1 hdd hb (Nat.le_of_ble_eq_true rfl) (fun r G2 hz => ?_) hkx
  obtain ⟨rfl, h⟩ := hk r G2 hz
  refine z_aload_n (pc' := 10) dX12_readLaw_9 rfl rfl ?_
  obtain ⟨h1, h⟩ := h
  refine z_getI (ci := 13) (kf := 4) (pc' := 13) dX12_readLaw_10 kX12_187 (Or.inl rfl) (by decide) (by decide) rfl rfl h1 ?_
  refine z_aload_n (pc' := 14) dX12_readLaw_13 rfl rfl ?_
  obtain ⟨h1, h⟩ := h
  refine z_getI (ci := 13) (kf := 5) (pc' := 17) dX12_readLaw_14 kX12_184 (Or.inl rfl) (by decide) (by decide) rfl rfl h1 ?_
  refine z_icmp_ne (pt := 22) (pc' := 20) dX12_readLaw_17 (by decide) rfl (fun hc => ?_) (fun hc => ?_)
  · have h := h.1 hc
    refine z_iconst (x := 0) (pc' := 23) dX12_readLaw_22 (by decide) rfl ?_
    refine z_istore_n (pc' := 24) dX12_readLaw_23 (by decide) rfl ?_
    exact z_dr (ls' := [some (.ref q0), some (.int 0)]) ⟨rfl, rfl, trivial⟩ h
  · have h := h.2 hc
    refine z_iconst (x := 0) (pc' := 21) dX12_readLaw_20 (by decide) rfl ?_
    exact z_iret dX12_readLaw_21 rfl h
def wp_X12_readLaw_24 (E : ZE) (l : Launch) (d b : Nat) (G0 : ZG) (Q : ZQ) (k : Nat) (q0 : Nat) (x1 : Int32) (G : ZG) : Prop :=
  zob G q0 13 ∧
  xcI E l mX12_readClause d [.ref q0, .int x1] G k (fun X G9 => Q (.inr X) G9) (fun y1 G2 k3 =>
  ((¬ y1 = 0 →
    zob G2 q0 13 ∧
    xcV E l mX12_blanksBetween d [.ref q0] G2 k3 (fun X G9 => Q (.inr X) G9) (fun G4 k5 =>
    zob G4 q0 13 ∧
    zob G4 q0 13 ∧
    ((¬ (ziv G4 q0 4) = (ziv G4 q0 5) →
      zob G4 q0 13 ∧
      xcI E l mX12_isAt d [.ref q0, .int 59, .int 59] G4 k5 (fun X G9 => Q (.inr X) G9) (fun y6 G7 k8 =>
      ((¬ y6 = 0 →
        zob G7 q0 13 ∧
        zob G7 q0 13 ∧
        ∀ G9, G9 = zsi G7 q0 4 ((ziv G7 q0 4) + 1) →
        zW E l mX12_readLaw d b G0 Q k8 24 [some (.ref q0), some (.int (x1 + 1))] [] G9) ∧
      (¬ (¬ y6 = 0) →
        Q (.inl (some (.int (-1)))) G7)))) ∧
    (¬ (¬ (ziv G4 q0 4) = (ziv G4 q0 5)) →
      Q (.inl (some (.int (x1 + 1)))) G4)))) ∧
  (¬ (¬ y1 = 0) →
    Q (.inl (some (.int (-1)))) G2)))
theorem wpt_X12_readLaw_24 {E : ZE} {l : Launch} {d b : Nat} {G0 : ZG} {Q : ZQ} {k : Nat} {q0 : Nat} {x1 : Int32} {G : ZG} (h : wp_X12_readLaw_24 E l d b G0 Q k q0 x1 G) : zW E l mX12_readLaw d b G0 Q k 24 [some (.ref q0), some (.int x1)] [] G := by
  unfold wp_X12_readLaw_24 at h
  refine z_aload_n (pc' := 25) dX12_readLaw_24 rfl rfl ?_
  refine z_iload_n (pc' := 26) dX12_readLaw_25 rfl rfl ?_
  obtain ⟨h1, h⟩ := h
  obtain ⟨d1, b1, Qz, hm, hdd, hb, hkx, hk⟩ := h
  refine z_callV (Y := mX12_readClause) (n := 1) (as := [.int x1]) (st := []) (pc' := 29) (ci := 13) (q := q0) hm dX12_readLaw_26 kX12_308 vX12_readClause rfl rfl (by decide) rfl h1 hdd hb (Nat.le_of_ble_eq_true rfl) (fun r G2 hz => ?_) hkx
  obtain ⟨y1, rfl, h⟩ := hk r G2 hz
  refine z_if_ne (pt := 34) (pc' := 32) dX12_readLaw_29 (by decide) rfl (fun hc => ?_) (fun hc => ?_)
  · have h := h.1 hc
    refine z_aload_n (pc' := 35) dX12_readLaw_34 rfl rfl ?_
    obtain ⟨h1, h⟩ := h
    obtain ⟨d1, b1, Qz, hm, hdd, hb, hkx, hk⟩ := h
    refine z_callV (Y := mX12_blanksBetween) (n := 0) (as := []) (st := []) (pc' := 38) (ci := 13) (q := q0) hm dX12_readLaw_35 kX12_197 vX12_blanksBetween rfl rfl (by decide) rfl h1 hdd hb (Nat.le_of_ble_eq_true rfl) (fun r G4 hz => ?_) hkx
    obtain ⟨rfl, h⟩ := hk r G4 hz
    refine z_aload_n (pc' := 39) dX12_readLaw_38 rfl rfl ?_
    obtain ⟨h1, h⟩ := h
    refine z_getI (ci := 13) (kf := 4) (pc' := 42) dX12_readLaw_39 kX12_187 (Or.inl rfl) (by decide) (by decide) rfl rfl h1 ?_
    refine z_aload_n (pc' := 43) dX12_readLaw_42 rfl rfl ?_
    obtain ⟨h1, h⟩ := h
    refine z_getI (ci := 13) (kf := 5) (pc' := 46) dX12_readLaw_43 kX12_184 (Or.inl rfl) (by decide) (by decide) rfl rfl h1 ?_
    refine z_icmp_ne (pt := 53) (pc' := 49) dX12_readLaw_46 (by decide) rfl (fun hc => ?_) (fun hc => ?_)
    · have h := h.1 hc
      refine z_aload_n (pc' := 54) dX12_readLaw_53 rfl rfl ?_
      refine z_bipush (x := 59) (pc' := 56) dX12_readLaw_54 (by decide) rfl ?_
      refine z_bipush (x := 59) (pc' := 58) dX12_readLaw_56 (by decide) rfl ?_
      obtain ⟨h1, h⟩ := h
      obtain ⟨d1, b1, Qz, hm, hdd, hb, hkx, hk⟩ := h
      refine z_callV (Y := mX12_isAt) (n := 2) (as := [.int 59, .int 59]) (st := []) (pc' := 61) (ci := 13) (q := q0) hm dX12_readLaw_58 kX12_190 vX12_isAt rfl rfl (by decide) rfl h1 hdd hb (Nat.le_of_ble_eq_true rfl) (fun r G7 hz => ?_) hkx
      obtain ⟨y6, rfl, h⟩ := hk r G7 hz
      refine z_if_ne (pt := 66) (pc' := 64) dX12_readLaw_61 (by decide) rfl (fun hc => ?_) (fun hc => ?_)
      · have h := h.1 hc
        refine z_aload_n (pc' := 67) dX12_readLaw_66 rfl rfl ?_
        refine z_dup (pc' := 68) dX12_readLaw_67 rfl rfl ?_
        obtain ⟨h1, h⟩ := h
        refine z_getI (ci := 13) (kf := 4) (pc' := 71) dX12_readLaw_68 kX12_187 (Or.inl rfl) (by decide) (by decide) rfl rfl h1 ?_
        refine z_iconst (x := 1) (pc' := 72) dX12_readLaw_71 (by decide) rfl ?_
        refine z_iadd (pc' := 73) dX12_readLaw_72 rfl rfl ?_
        obtain ⟨h1, h⟩ := h
        obtain ⟨G9, hG⟩ : ∃ z, z = zsi G7 q0 4 ((ziv G7 q0 4) + 1) := ⟨_, rfl⟩
        have h := h _ hG
        refine z_putI (ci := 13) (kf := 4) (pc' := 76) dX12_readLaw_73 kX12_187 (Or.inl rfl) (by decide) (by decide) rfl (Or.inl rfl) rfl h1 (zok_int _) ?_
        refine z_st hG ?_
        refine z_iinc (y := x1 + 1) (pc' := 79) dX12_readLaw_76 rfl (zinc_1 _) (by decide) rfl ?_
        refine z_goto (pc' := 24) dX12_readLaw_79 (by decide) ?_
        exact z_dr (ls' := [some (.ref q0), some (.int (x1 + 1))]) ⟨rfl, rfl, trivial⟩ h
      · have h := h.2 hc
        refine z_iconst (x := (-1)) (pc' := 65) dX12_readLaw_64 (by decide) rfl ?_
        exact z_iret dX12_readLaw_65 rfl h
    · have h := h.2 hc
      refine z_iload_n (pc' := 50) dX12_readLaw_49 rfl rfl ?_
      refine z_iconst (x := 1) (pc' := 51) dX12_readLaw_50 (by decide) rfl ?_
      refine z_iadd (pc' := 52) dX12_readLaw_51 rfl rfl ?_
      exact z_iret dX12_readLaw_52 rfl h
  · have h := h.2 hc
    refine z_iconst (x := (-1)) (pc' := 33) dX12_readLaw_32 (by decide) rfl ?_
    exact z_iret dX12_readLaw_33 rfl h
def wp_X12_readName_0 (E : ZE) (l : Launch) (d b : Nat) (G0 : ZG) (Q : ZQ) (k : Nat) (q0 : Nat) (G : ZG) : Prop :=
  zob G q0 13 ∧
  ∀ G1, G1 = zsi G q0 4 0 →
  zW E l mX12_readName d b G0 Q k 10 [some (.ref q0), some (.int 0), some (.int 32), none, none] [] G1
theorem wpt_X12_readName_0 {E : ZE} {l : Launch} {d b : Nat} {G0 : ZG} {Q : ZQ} {k : Nat} {q0 : Nat} {G : ZG} (h : wp_X12_readName_0 E l d b G0 Q k q0 G) : zW E l mX12_readName d b G0 Q k 0 [some (.ref q0), none, none, none, none] [] G := by
  unfold wp_X12_readName_0 at h
  refine z_iconst (x := 0) (pc' := 1) dX12_readName_0 (by decide) rfl ?_
  refine z_istore_n (pc' := 2) dX12_readName_1 (by decide) rfl ?_
  refine z_bipush (x := 32) (pc' := 4) dX12_readName_2 (by decide) rfl ?_
  refine z_istore_n (pc' := 5) dX12_readName_4 (by decide) rfl ?_
  refine z_aload_n (pc' := 6) dX12_readName_5 rfl rfl ?_
  refine z_iconst (x := 0) (pc' := 7) dX12_readName_6 (by decide) rfl ?_
  obtain ⟨h1, h⟩ := h
  obtain ⟨G1, hG⟩ : ∃ z, z = zsi G q0 4 0 := ⟨_, rfl⟩
  have h := h _ hG
  refine z_putI (ci := 13) (kf := 4) (pc' := 10) dX12_readName_7 kX12_187 (Or.inl rfl) (by decide) (by decide) rfl (Or.inl rfl) rfl h1 (zok_int _) ?_
  refine z_st hG ?_
  exact z_dr (ls' := [some (.ref q0), some (.int 0), some (.int 32), none, none]) ⟨rfl, rfl, rfl, trivial⟩ h
def wp_X12_readName_10 (E : ZE) (l : Launch) (d b : Nat) (G0 : ZG) (Q : ZQ) (k : Nat) (q0 : Nat) (x1 : Int32) (x2 : Int32) (G : ZG) : Prop :=
  zob G q0 13 ∧
  zob G q0 13 ∧
  (((ziv G q0 5) ≤ (ziv G q0 4) →
    zob G q0 13 ∧
    zob G q0 13 ∧
    ∀ G1, G1 = zsi G q0 6 (ziv G q0 5) →
    xcI E l mX12_isGap d [.int x2] G1 k (fun X G9 => Q (.inr X) G9) (fun y2 G3 k4 =>
    ((y2 = 0 →
      Q (.inl (some (.int x1))) G3) ∧
    (¬ (y2 = 0) →
      Q (.inl (some (.int (-1)))) G3)))) ∧
  (¬ ((ziv G q0 5) ≤ (ziv G q0 4)) →
    zob G q0 13 ∧
    zob G q0 13 ∧
    (zar G (zrv G q0 2) 1 ∨ zrd G (zrv G q0 2) .byte) ∧ vp_in (ziv G q0 4) (zln G (zrv G q0 2)) ∧
    xcI E l mX12_turnOf d [.int ((ziv G (zrv G q0 2) (ziv G q0 4).toNatClampNeg) &&& 255)] G k (fun X G9 => Q (.inr X) G9) (fun y5 G6 k7 =>
    zob G6 q0 13 ∧
    zob G6 q0 13 ∧
    ∀ G8, G8 = zsi G6 q0 6 (ziv G6 q0 4) →
    zob G8 q0 13 ∧
    (((ziv G8 q0 4) = 24 →
      Q (.inl (some (.int (-1)))) G8) ∧
    (¬ ((ziv G8 q0 4) = 24) →
      ((y5 = 0 →
        Q (.inl (some (.int (-1)))) G8) ∧
      (¬ (y5 = 0) →
        xcI E l mX12_isGap d [.int ((ziv G (zrv G q0 2) (ziv G q0 4).toNatClampNeg) &&& 255)] G8 k7 (fun X G9 => Q (.inr X) G9) (fun y9 G10 k11 =>
        ((y9 = 0 →
          zW E l mX12_readName d b G0 Q k11 79 [some (.ref q0), some (.int x1), none, some (.int ((ziv G (zrv G q0 2) (ziv G q0 4).toNatClampNeg) &&& 255)), some (.int y5)] [] G10) ∧
        (¬ (y9 = 0) →
          xcI E l mX12_isGap d [.int x2] G10 k11 (fun X G9 => Q (.inr X) G9) (fun y12 G13 k14 =>
          ((y12 = 0 →
            zW E l mX12_readName d b G0 Q k14 79 [some (.ref q0), some (.int x1), none, some (.int ((ziv G (zrv G q0 2) (ziv G q0 4).toNatClampNeg) &&& 255)), some (.int y5)] [] G13) ∧
          (¬ (y12 = 0) →
            Q (.inl (some (.int (-1)))) G13)))))))))))))
theorem wpt_X12_readName_10 {E : ZE} {l : Launch} {d b : Nat} {G0 : ZG} {Q : ZQ} {k : Nat} {q0 : Nat} {x1 : Int32} {x2 : Int32} {G : ZG} (h : wp_X12_readName_10 E l d b G0 Q k q0 x1 x2 G) : zW E l mX12_readName d b G0 Q k 10 [some (.ref q0), some (.int x1), some (.int x2), none, none] [] G := by
  unfold wp_X12_readName_10 at h
  refine z_aload_n (pc' := 11) dX12_readName_10 rfl rfl ?_
  obtain ⟨h1, h⟩ := h
  refine z_getI (ci := 13) (kf := 4) (pc' := 14) dX12_readName_11 kX12_187 (Or.inl rfl) (by decide) (by decide) rfl rfl h1 ?_
  refine z_aload_n (pc' := 15) dX12_readName_14 rfl rfl ?_
  obtain ⟨h1, h⟩ := h
  refine z_getI (ci := 13) (kf := 5) (pc' := 18) dX12_readName_15 kX12_184 (Or.inl rfl) (by decide) (by decide) rfl rfl h1 ?_
  refine z_icmp_ge (pt := 132) (pc' := 21) dX12_readName_18 (by decide) rfl (fun hc => ?_) (fun hc => ?_)
  · have h := h.1 hc
    refine z_aload_n (pc' := 133) dX12_readName_132 rfl rfl ?_
    refine z_aload_n (pc' := 134) dX12_readName_133 rfl rfl ?_
    obtain ⟨h1, h⟩ := h
    refine z_getI (ci := 13) (kf := 5) (pc' := 137) dX12_readName_134 kX12_184 (Or.inl rfl) (by decide) (by decide) rfl rfl h1 ?_
    obtain ⟨h1, h⟩ := h
    obtain ⟨G1, hG⟩ : ∃ z, z = zsi G q0 6 (ziv G q0 5) := ⟨_, rfl⟩
    have h := h _ hG
    refine z_putI (ci := 13) (kf := 6) (pc' := 140) dX12_readName_137 kX12_194 (Or.inl rfl) (by decide) (by decide) rfl (Or.inl rfl) rfl h1 (zok_int _) ?_
    refine z_st hG ?_
    refine z_iload_n (pc' := 141) dX12_readName_140 rfl rfl ?_
    obtain ⟨d1, b1, Qz, hm, hdd, hb, hkx, hk⟩ := h
    refine z_callS (Y := mX12_isGap) (n := 1) (as := [.int x2]) (st := []) (pc' := 144) hm dX12_readName_141 kX12_382 sX12_isGap rfl rfl hdd hb (Nat.le_of_ble_eq_true rfl) (fun r G3 hz => ?_) hkx
    obtain ⟨y2, rfl, h⟩ := hk r G3 hz
    refine z_if_eq (pt := 151) (pc' := 147) dX12_readName_144 (by decide) rfl (fun hc => ?_) (fun hc => ?_)
    · have h := h.1 hc
      refine z_iload_n (pc' := 152) dX12_readName_151 rfl rfl ?_
      exact z_iret dX12_readName_152 rfl h
    · have h := h.2 hc
      refine z_iconst (x := (-1)) (pc' := 148) dX12_readName_147 (by decide) rfl ?_
      refine z_goto (pc' := 152) dX12_readName_148 (by decide) ?_
      exact z_iret dX12_readName_152 rfl h
  · have h := h.2 hc
    refine z_aload_n (pc' := 22) dX12_readName_21 rfl rfl ?_
    obtain ⟨h1, h⟩ := h
    refine z_getR (ci := 13) (kf := 2) (pc' := 25) dX12_readName_22 kX12_9 (Or.inl rfl) (by decide) (by decide) rfl rfl h1 ?_
    refine z_aload_n (pc' := 26) dX12_readName_25 rfl rfl ?_
    obtain ⟨h1, h⟩ := h
    refine z_getI (ci := 13) (kf := 4) (pc' := 29) dX12_readName_26 kX12_187 (Or.inl rfl) (by decide) (by decide) rfl rfl h1 ?_
    obtain ⟨h1, h2, h⟩ := h
    refine z_bald (pc' := 30) dX12_readName_29 rfl h1 h2 ?_
    refine z_sipush (x := 255) (pc' := 33) dX12_readName_30 (by decide) rfl ?_
    refine z_iand (pc' := 34) dX12_readName_33 rfl rfl ?_
    refine z_istore_n (pc' := 35) dX12_readName_34 (by decide) rfl ?_
    refine z_iload_n (pc' := 36) dX12_readName_35 rfl rfl ?_
    obtain ⟨d1, b1, Qz, hm, hdd, hb, hkx, hk⟩ := h
    refine z_callS (Y := mX12_turnOf) (n := 1) (as := [.int ((ziv G (zrv G q0 2) (ziv G q0 4).toNatClampNeg) &&& 255)]) (st := []) (pc' := 39) hm dX12_readName_36 kX12_379 sX12_turnOf rfl rfl hdd hb (Nat.le_of_ble_eq_true rfl) (fun r G6 hz => ?_) hkx
    obtain ⟨y5, rfl, h⟩ := hk r G6 hz
    refine z_istore (pc' := 41) dX12_readName_39 (by decide) rfl ?_
    refine z_aload_n (pc' := 42) dX12_readName_41 rfl rfl ?_
    refine z_aload_n (pc' := 43) dX12_readName_42 rfl rfl ?_
    obtain ⟨h1, h⟩ := h
    refine z_getI (ci := 13) (kf := 4) (pc' := 46) dX12_readName_43 kX12_187 (Or.inl rfl) (by decide) (by decide) rfl rfl h1 ?_
    obtain ⟨h1, h⟩ := h
    obtain ⟨G8, hG⟩ : ∃ z, z = zsi G6 q0 6 (ziv G6 q0 4) := ⟨_, rfl⟩
    have h := h _ hG
    refine z_putI (ci := 13) (kf := 6) (pc' := 49) dX12_readName_46 kX12_194 (Or.inl rfl) (by decide) (by decide) rfl (Or.inl rfl) rfl h1 (zok_int _) ?_
    refine z_st hG ?_
    refine z_aload_n (pc' := 50) dX12_readName_49 rfl rfl ?_
    obtain ⟨h1, h⟩ := h
    refine z_getI (ci := 13) (kf := 4) (pc' := 53) dX12_readName_50 kX12_187 (Or.inl rfl) (by decide) (by decide) rfl rfl h1 ?_
    refine z_bipush (x := 24) (pc' := 55) dX12_readName_53 (by decide) rfl ?_
    refine z_icmp_eq (pt := 77) (pc' := 58) dX12_readName_55 (by decide) rfl (fun hc => ?_) (fun hc => ?_)
    · have h := h.1 hc
      refine z_iconst (x := (-1)) (pc' := 78) dX12_readName_77 (by decide) rfl ?_
      exact z_iret dX12_readName_78 rfl h
    · have h := h.2 hc
      refine z_iload (pc' := 60) dX12_readName_58 rfl rfl ?_
      refine z_if_eq (pt := 77) (pc' := 63) dX12_readName_60 (by decide) rfl (fun hc => ?_) (fun hc => ?_)
      · have h := h.1 hc
        refine z_iconst (x := (-1)) (pc' := 78) dX12_readName_77 (by decide) rfl ?_
        exact z_iret dX12_readName_78 rfl h
      · have h := h.2 hc
        refine z_iload_n (pc' := 64) dX12_readName_63 rfl rfl ?_
        obtain ⟨d1, b1, Qz, hm, hdd, hb, hkx, hk⟩ := h
        refine z_callS (Y := mX12_isGap) (n := 1) (as := [.int ((ziv G (zrv G q0 2) (ziv G q0 4).toNatClampNeg) &&& 255)]) (st := []) (pc' := 67) hm dX12_readName_64 kX12_382 sX12_isGap rfl rfl hdd hb (Nat.le_of_ble_eq_true rfl) (fun r G10 hz => ?_) hkx
        obtain ⟨y9, rfl, h⟩ := hk r G10 hz
        refine z_if_eq (pt := 79) (pc' := 70) dX12_readName_67 (by decide) rfl (fun hc => ?_) (fun hc => ?_)
        · have h := h.1 hc
          exact z_dr (ls' := [some (.ref q0), some (.int x1), none, some (.int ((ziv G (zrv G q0 2) (ziv G q0 4).toNatClampNeg) &&& 255)), some (.int y5)]) ⟨rfl, rfl, rfl, rfl, trivial⟩ h
        · have h := h.2 hc
          refine z_iload_n (pc' := 71) dX12_readName_70 rfl rfl ?_
          obtain ⟨d1, b1, Qz, hm, hdd, hb, hkx, hk⟩ := h
          refine z_callS (Y := mX12_isGap) (n := 1) (as := [.int x2]) (st := []) (pc' := 74) hm dX12_readName_71 kX12_382 sX12_isGap rfl rfl hdd hb (Nat.le_of_ble_eq_true rfl) (fun r G13 hz => ?_) hkx
          obtain ⟨y12, rfl, h⟩ := hk r G13 hz
          refine z_if_eq (pt := 79) (pc' := 77) dX12_readName_74 (by decide) rfl (fun hc => ?_) (fun hc => ?_)
          · have h := h.1 hc
            exact z_dr (ls' := [some (.ref q0), some (.int x1), none, some (.int ((ziv G (zrv G q0 2) (ziv G q0 4).toNatClampNeg) &&& 255)), some (.int y5)]) ⟨rfl, rfl, rfl, rfl, trivial⟩ h
          · have h := h.2 hc
            refine z_iconst (x := (-1)) (pc' := 78) dX12_readName_77 (by decide) rfl ?_
            exact z_iret dX12_readName_78 rfl h
def wp_X12_readName_79 (E : ZE) (l : Launch) (d b : Nat) (G0 : ZG) (Q : ZQ) (k : Nat) (q0 : Nat) (x1 : Int32) (x3 : Int32) (x4 : Int32) (G : ZG) : Prop :=
  zob G q0 13 ∧
  zar G (zrv G q0 36) 0 ∧ vp_in x1 (zln G (zrv G q0 36)) ∧
  ∀ G1, G1 = zsi G (zrv G q0 36) x1.toNatClampNeg (x4 - x4 / 256 * 256) →
  ((x4 < 256 →
    zob G1 q0 13 ∧
    zob G1 q0 13 ∧
    ∀ G2, G2 = zsi G1 q0 4 ((ziv G1 q0 4) + 1) →
    zW E l mX12_readName d b G0 Q k 10 [some (.ref q0), some (.int (x1 + 1)), some (.int x3), none, none] [] G2) ∧
  (¬ (x4 < 256) →
    zob G1 q0 13 ∧
    zar G1 (zrv G1 q0 36) 0 ∧ vp_in (x1 + 1) (zln G1 (zrv G1 q0 36)) ∧
    ∀ G3, G3 = zsi G1 (zrv G1 q0 36) (x1 + 1).toNatClampNeg (x4 / 256) →
    zob G3 q0 13 ∧
    zob G3 q0 13 ∧
    ∀ G4, G4 = zsi G3 q0 4 ((ziv G3 q0 4) + 1) →
    zW E l mX12_readName d b G0 Q k 10 [some (.ref q0), some (.int ((x1 + 1) + 1)), some (.int x3), none, none] [] G4))
theorem wpt_X12_readName_79 {E : ZE} {l : Launch} {d b : Nat} {G0 : ZG} {Q : ZQ} {k : Nat} {q0 : Nat} {x1 : Int32} {x3 : Int32} {x4 : Int32} {G : ZG} (h : wp_X12_readName_79 E l d b G0 Q k q0 x1 x3 x4 G) : zW E l mX12_readName d b G0 Q k 79 [some (.ref q0), some (.int x1), none, some (.int x3), some (.int x4)] [] G := by
  unfold wp_X12_readName_79 at h
  refine z_aload_n (pc' := 80) dX12_readName_79 rfl rfl ?_
  obtain ⟨h1, h⟩ := h
  refine z_getR (ci := 13) (kf := 36) (pc' := 83) dX12_readName_80 kX12_73 (Or.inl rfl) (by decide) (by decide) rfl rfl h1 ?_
  refine z_iload_n (pc' := 84) dX12_readName_83 rfl rfl ?_
  refine z_iload (pc' := 86) dX12_readName_84 rfl rfl ?_
  refine z_sipush (x := 256) (pc' := 89) dX12_readName_86 (by decide) rfl ?_
  refine z_irem (pc' := 90) dX12_readName_89 (by decide) rfl rfl ?_
  obtain ⟨h1, h2, h⟩ := h
  obtain ⟨G1, hG⟩ : ∃ z, z = zsi G (zrv G q0 36) x1.toNatClampNeg (x4 - x4 / 256 * 256) := ⟨_, rfl⟩
  have h := h _ hG
  refine z_iast (pc' := 91) dX12_readName_90 rfl h1 h2  ?_
  refine z_st hG ?_
  refine z_iinc (y := x1 + 1) (pc' := 94) dX12_readName_91 rfl (zinc_1 _) (by decide) rfl ?_
  refine z_iload (pc' := 96) dX12_readName_94 rfl rfl ?_
  refine z_sipush (x := 256) (pc' := 99) dX12_readName_96 (by decide) rfl ?_
  refine z_icmp_lt (pt := 117) (pc' := 102) dX12_readName_99 (by decide) rfl (fun hc => ?_) (fun hc => ?_)
  · have h := h.1 hc
    refine z_iload_n (pc' := 118) dX12_readName_117 rfl rfl ?_
    refine z_istore_n (pc' := 119) dX12_readName_118 (by decide) rfl ?_
    refine z_aload_n (pc' := 120) dX12_readName_119 rfl rfl ?_
    refine z_dup (pc' := 121) dX12_readName_120 rfl rfl ?_
    obtain ⟨h1, h⟩ := h
    refine z_getI (ci := 13) (kf := 4) (pc' := 124) dX12_readName_121 kX12_187 (Or.inl rfl) (by decide) (by decide) rfl rfl h1 ?_
    refine z_iconst (x := 1) (pc' := 125) dX12_readName_124 (by decide) rfl ?_
    refine z_iadd (pc' := 126) dX12_readName_125 rfl rfl ?_
    obtain ⟨h1, h⟩ := h
    obtain ⟨G2, hG⟩ : ∃ z, z = zsi G1 q0 4 ((ziv G1 q0 4) + 1) := ⟨_, rfl⟩
    have h := h _ hG
    refine z_putI (ci := 13) (kf := 4) (pc' := 129) dX12_readName_126 kX12_187 (Or.inl rfl) (by decide) (by decide) rfl (Or.inl rfl) rfl h1 (zok_int _) ?_
    refine z_st hG ?_
    refine z_goto (pc' := 10) dX12_readName_129 (by decide) ?_
    exact z_dr (ls' := [some (.ref q0), some (.int (x1 + 1)), some (.int x3), none, none]) ⟨rfl, rfl, rfl, trivial⟩ h
  · have h := h.2 hc
    refine z_aload_n (pc' := 103) dX12_readName_102 rfl rfl ?_
    obtain ⟨h1, h⟩ := h
    refine z_getR (ci := 13) (kf := 36) (pc' := 106) dX12_readName_103 kX12_73 (Or.inl rfl) (by decide) (by decide) rfl rfl h1 ?_
    refine z_iload_n (pc' := 107) dX12_readName_106 rfl rfl ?_
    refine z_iload (pc' := 109) dX12_readName_107 rfl rfl ?_
    refine z_sipush (x := 256) (pc' := 112) dX12_readName_109 (by decide) rfl ?_
    refine z_idiv (pc' := 113) dX12_readName_112 (by decide) rfl rfl ?_
    obtain ⟨h1, h2, h⟩ := h
    obtain ⟨G3, hG⟩ : ∃ z, z = zsi G1 (zrv G1 q0 36) (x1 + 1).toNatClampNeg (x4 / 256) := ⟨_, rfl⟩
    have h := h _ hG
    refine z_iast (pc' := 114) dX12_readName_113 rfl h1 h2  ?_
    refine z_st hG ?_
    refine z_iinc (y := (x1 + 1) + 1) (pc' := 117) dX12_readName_114 rfl (zinc_1 _) (by decide) rfl ?_
    refine z_iload_n (pc' := 118) dX12_readName_117 rfl rfl ?_
    refine z_istore_n (pc' := 119) dX12_readName_118 (by decide) rfl ?_
    refine z_aload_n (pc' := 120) dX12_readName_119 rfl rfl ?_
    refine z_dup (pc' := 121) dX12_readName_120 rfl rfl ?_
    obtain ⟨h1, h⟩ := h
    refine z_getI (ci := 13) (kf := 4) (pc' := 124) dX12_readName_121 kX12_187 (Or.inl rfl) (by decide) (by decide) rfl rfl h1 ?_
    refine z_iconst (x := 1) (pc' := 125) dX12_readName_124 (by decide) rfl ?_
    refine z_iadd (pc' := 126) dX12_readName_125 rfl rfl ?_
    obtain ⟨h1, h⟩ := h
    obtain ⟨G4, hG⟩ : ∃ z, z = zsi G3 q0 4 ((ziv G3 q0 4) + 1) := ⟨_, rfl⟩
    have h := h _ hG
    refine z_putI (ci := 13) (kf := 4) (pc' := 129) dX12_readName_126 kX12_187 (Or.inl rfl) (by decide) (by decide) rfl (Or.inl rfl) rfl h1 (zok_int _) ?_
    refine z_st hG ?_
    refine z_goto (pc' := 10) dX12_readName_129 (by decide) ?_
    exact z_dr (ls' := [some (.ref q0), some (.int ((x1 + 1) + 1)), some (.int x3), none, none]) ⟨rfl, rfl, rfl, trivial⟩ h
def wp_X12_refuse_0 (E : ZE) (l : Launch) (d b : Nat) (G0 : ZG) (Q : ZQ) (k : Nat) (q0 : Nat) (x1 : Int32) (G : ZG) : Prop :=
  zob G q0 13 ∧
  ∀ G1, G1 = zsi G q0 0 0 →
  zob G1 q0 13 ∧
  xcI E l mX12_noAsking d [.ref q0, .int x1] G1 k (fun X G9 => Q (.inr X) G9) (fun y2 G3 k4 =>
  zob G3 q0 13 ∧
  xcI E l mX12_throwsIf d [.ref q0, .int y2, .int 1] G3 k4 (fun X G9 => Q (.inr X) G9) (fun y5 G6 k7 =>
  ((¬ y5 = 0 →
    Q (.inl none) G6) ∧
  (¬ (¬ y5 = 0) →
    zob G6 q0 13 ∧
    xcI E l mX12_now d [.ref q0, .int x1, .int 0] G6 k7 (fun X G9 => Q (.inr X) G9) (fun y8 G9 k10 =>
    ((y8 ≤ 5 →
      zob G9 q0 13 ∧
      xcI E l mX12_throwsIf d [.ref q0, .int 0, .int 2] G9 k10 (fun X G9 => Q (.inr X) G9) (fun y11 G12 k13 =>
      ((y11 = 0 →
        zob G12 q0 13 ∧
        xcV E l mX12_sets d [.ref q0, .int x1, .int 0, .int 9] G12 k13 (fun X G9 => Q (.inr X) G9) (fun G14 k15 =>
        Q (.inl none) G14)) ∧
      (¬ (y11 = 0) →
        Q (.inl none) G12)))) ∧
    (¬ (y8 ≤ 5) →
      zob G9 q0 13 ∧
      xcI E l mX12_throwsIf d [.ref q0, .int 1, .int 2] G9 k10 (fun X G9 => Q (.inr X) G9) (fun y16 G17 k18 =>
      ((y16 = 0 →
        zob G17 q0 13 ∧
        xcV E l mX12_sets d [.ref q0, .int x1, .int 0, .int 9] G17 k18 (fun X G9 => Q (.inr X) G9) (fun G19 k20 =>
        Q (.inl none) G19)) ∧
      (¬ (y16 = 0) →
        Q (.inl none) G17))))))))))
theorem wpt_X12_refuse_0 {E : ZE} {l : Launch} {d b : Nat} {G0 : ZG} {Q : ZQ} {k : Nat} {q0 : Nat} {x1 : Int32} {G : ZG} (h : wp_X12_refuse_0 E l d b G0 Q k q0 x1 G) : zW E l mX12_refuse d b G0 Q k 0 [some (.ref q0), some (.int x1)] [] G := by
  unfold wp_X12_refuse_0 at h
  refine z_aload_n (pc' := 1) dX12_refuse_0 rfl rfl ?_
  refine z_iconst (x := 0) (pc' := 2) dX12_refuse_1 (by decide) rfl ?_
  obtain ⟨h1, h⟩ := h
  obtain ⟨G1, hG⟩ : ∃ z, z = zsi G q0 0 0 := ⟨_, rfl⟩
  have h := h _ hG
  refine z_putI (ci := 13) (kf := 0) (pc' := 5) dX12_refuse_2 kX12_178 (Or.inl rfl) (by decide) (by decide) rfl (Or.inl rfl) rfl h1 (zok_int _) ?_
  refine z_st hG ?_
  refine z_aload_n (pc' := 6) dX12_refuse_5 rfl rfl ?_
  refine z_aload_n (pc' := 7) dX12_refuse_6 rfl rfl ?_
  refine z_iload_n (pc' := 8) dX12_refuse_7 rfl rfl ?_
  obtain ⟨h1, h⟩ := h
  obtain ⟨d1, b1, Qz, hm, hdd, hb, hkx, hk⟩ := h
  refine z_callV (Y := mX12_noAsking) (n := 1) (as := [.int x1]) (st := [.ref q0]) (pc' := 11) (ci := 13) (q := q0) hm dX12_refuse_8 kX12_431 vX12_noAsking rfl rfl (by decide) rfl h1 hdd hb (Nat.le_of_ble_eq_true rfl) (fun r G3 hz => ?_) hkx
  obtain ⟨y2, rfl, h⟩ := hk r G3 hz
  refine z_iconst (x := 1) (pc' := 12) dX12_refuse_11 (by decide) rfl ?_
  obtain ⟨h1, h⟩ := h
  obtain ⟨d1, b1, Qz, hm, hdd, hb, hkx, hk⟩ := h
  refine z_callV (Y := mX12_throwsIf) (n := 2) (as := [.int y2, .int 1]) (st := []) (pc' := 15) (ci := 13) (q := q0) hm dX12_refuse_12 kX12_321 vX12_throwsIf rfl rfl (by decide) rfl h1 hdd hb (Nat.le_of_ble_eq_true rfl) (fun r G6 hz => ?_) hkx
  obtain ⟨y5, rfl, h⟩ := hk r G6 hz
  refine z_if_ne (pt := 41) (pc' := 18) dX12_refuse_15 (by decide) rfl (fun hc => ?_) (fun hc => ?_)
  · have h := h.1 hc
    exact z_vret dX12_refuse_41 rfl h
  · have h := h.2 hc
    refine z_aload_n (pc' := 19) dX12_refuse_18 rfl rfl ?_
    refine z_aload_n (pc' := 20) dX12_refuse_19 rfl rfl ?_
    refine z_iload_n (pc' := 21) dX12_refuse_20 rfl rfl ?_
    refine z_iconst (x := 0) (pc' := 22) dX12_refuse_21 (by decide) rfl ?_
    obtain ⟨h1, h⟩ := h
    obtain ⟨d1, b1, Qz, hm, hdd, hb, hkx, hk⟩ := h
    refine z_callV (Y := mX12_now) (n := 2) (as := [.int x1, .int 0]) (st := [.ref q0]) (pc' := 25) (ci := 13) (q := q0) hm dX12_refuse_22 kX12_434 vX12_now rfl rfl (by decide) rfl h1 hdd hb (Nat.le_of_ble_eq_true rfl) (fun r G9 hz => ?_) hkx
    obtain ⟨y8, rfl, h⟩ := hk r G9 hz
    refine z_iconst (x := 5) (pc' := 26) dX12_refuse_25 (by decide) rfl ?_
    refine z_icmp_le (pt := 33) (pc' := 29) dX12_refuse_26 (by decide) rfl (fun hc => ?_) (fun hc => ?_)
    · have h := h.1 hc
      refine z_iconst (x := 0) (pc' := 34) dX12_refuse_33 (by decide) rfl ?_
      refine z_iconst (x := 2) (pc' := 35) dX12_refuse_34 (by decide) rfl ?_
      obtain ⟨h1, h⟩ := h
      obtain ⟨d1, b1, Qz, hm, hdd, hb, hkx, hk⟩ := h
      refine z_callV (Y := mX12_throwsIf) (n := 2) (as := [.int 0, .int 2]) (st := []) (pc' := 38) (ci := 13) (q := q0) hm dX12_refuse_35 kX12_321 vX12_throwsIf rfl rfl (by decide) rfl h1 hdd hb (Nat.le_of_ble_eq_true rfl) (fun r G12 hz => ?_) hkx
      obtain ⟨y11, rfl, h⟩ := hk r G12 hz
      refine z_if_eq (pt := 42) (pc' := 41) dX12_refuse_38 (by decide) rfl (fun hc => ?_) (fun hc => ?_)
      · have h := h.1 hc
        refine z_aload_n (pc' := 43) dX12_refuse_42 rfl rfl ?_
        refine z_iload_n (pc' := 44) dX12_refuse_43 rfl rfl ?_
        refine z_iconst (x := 0) (pc' := 45) dX12_refuse_44 (by decide) rfl ?_
        refine z_bipush (x := 9) (pc' := 47) dX12_refuse_45 (by decide) rfl ?_
        obtain ⟨h1, h⟩ := h
        obtain ⟨d1, b1, Qz, hm, hdd, hb, hkx, hk⟩ := h
        refine z_callV (Y := mX12_sets) (n := 3) (as := [.int x1, .int 0, .int 9]) (st := []) (pc' := 50) (ci := 13) (q := q0) hm dX12_refuse_47 kX12_425 vX12_sets rfl rfl (by decide) rfl h1 hdd hb (Nat.le_of_ble_eq_true rfl) (fun r G14 hz => ?_) hkx
        obtain ⟨rfl, h⟩ := hk r G14 hz
        exact z_vret dX12_refuse_50 rfl h
      · have h := h.2 hc
        exact z_vret dX12_refuse_41 rfl h
    · have h := h.2 hc
      refine z_iconst (x := 1) (pc' := 30) dX12_refuse_29 (by decide) rfl ?_
      refine z_goto (pc' := 34) dX12_refuse_30 (by decide) ?_
      refine z_iconst (x := 2) (pc' := 35) dX12_refuse_34 (by decide) rfl ?_
      obtain ⟨h1, h⟩ := h
      obtain ⟨d1, b1, Qz, hm, hdd, hb, hkx, hk⟩ := h
      refine z_callV (Y := mX12_throwsIf) (n := 2) (as := [.int 1, .int 2]) (st := []) (pc' := 38) (ci := 13) (q := q0) hm dX12_refuse_35 kX12_321 vX12_throwsIf rfl rfl (by decide) rfl h1 hdd hb (Nat.le_of_ble_eq_true rfl) (fun r G17 hz => ?_) hkx
      obtain ⟨y16, rfl, h⟩ := hk r G17 hz
      refine z_if_eq (pt := 42) (pc' := 41) dX12_refuse_38 (by decide) rfl (fun hc => ?_) (fun hc => ?_)
      · have h := h.1 hc
        refine z_aload_n (pc' := 43) dX12_refuse_42 rfl rfl ?_
        refine z_iload_n (pc' := 44) dX12_refuse_43 rfl rfl ?_
        refine z_iconst (x := 0) (pc' := 45) dX12_refuse_44 (by decide) rfl ?_
        refine z_bipush (x := 9) (pc' := 47) dX12_refuse_45 (by decide) rfl ?_
        obtain ⟨h1, h⟩ := h
        obtain ⟨d1, b1, Qz, hm, hdd, hb, hkx, hk⟩ := h
        refine z_callV (Y := mX12_sets) (n := 3) (as := [.int x1, .int 0, .int 9]) (st := []) (pc' := 50) (ci := 13) (q := q0) hm dX12_refuse_47 kX12_425 vX12_sets rfl rfl (by decide) rfl h1 hdd hb (Nat.le_of_ble_eq_true rfl) (fun r G19 hz => ?_) hkx
        obtain ⟨rfl, h⟩ := hk r G19 hz
        exact z_vret dX12_refuse_50 rfl h
      · have h := h.2 hc
        exact z_vret dX12_refuse_41 rfl h
def wp_X12_rules_0 (E : ZE) (l : Launch) (d b : Nat) (G0 : ZG) (Q : ZQ) (k : Nat) (q0 : Nat) (x1 : Int32) (x2 : Int32) (x3 : Int32) (x4 : Int32) (x5 : Int32) (G : ZG) : Prop :=
  zob G q0 13 ∧
  ∀ G1, G1 = zsi G q0 0 0 →
  xcI E l mX12_in d [.int x1, .int 1, .int 200] G1 k (fun X G9 => Q (.inr X) G9) (fun y2 G3 k4 =>
  ((y2 = 0 →
    zW E l mX12_rules d b G0 Q k4 66 [some (.ref q0), some (.int x1), some (.int x2), some (.int x3), some (.int x4), some (.int x5)] [.int 1, .ref q0] G3) ∧
  (¬ (y2 = 0) →
    xcI E l mX12_in d [.int x2, .int 0, .int 10000] G3 k4 (fun X G9 => Q (.inr X) G9) (fun y5 G6 k7 =>
    ((y5 = 0 →
      zW E l mX12_rules d b G0 Q k7 66 [some (.ref q0), some (.int x1), some (.int x2), some (.int x3), some (.int x4), some (.int x5)] [.int 1, .ref q0] G6) ∧
    (¬ (y5 = 0) →
      xcI E l mX12_in d [.int x3, .int 0, .int 1000] G6 k7 (fun X G9 => Q (.inr X) G9) (fun y8 G9 k10 =>
      ((y8 = 0 →
        zW E l mX12_rules d b G0 Q k10 66 [some (.ref q0), some (.int x1), some (.int x2), some (.int x3), some (.int x4), some (.int x5)] [.int 1, .ref q0] G9) ∧
      (¬ (y8 = 0) →
        xcI E l mX12_in d [.int x4, .int 0, .int 60] G9 k10 (fun X G9 => Q (.inr X) G9) (fun y11 G12 k13 =>
        ((y11 = 0 →
          zW E l mX12_rules d b G0 Q k13 66 [some (.ref q0), some (.int x1), some (.int x2), some (.int x3), some (.int x4), some (.int x5)] [.int 1, .ref q0] G12) ∧
        (¬ (y11 = 0) →
          xcI E l mX12_in d [.int x5, .int 0, .int 60] G12 k13 (fun X G9 => Q (.inr X) G9) (fun y14 G15 k16 =>
          ((¬ y14 = 0 →
            zW E l mX12_rules d b G0 Q k16 66 [some (.ref q0), some (.int x1), some (.int x2), some (.int x3), some (.int x4), some (.int x5)] [.int 0, .ref q0] G15) ∧
          (¬ (¬ y14 = 0) →
            zW E l mX12_rules d b G0 Q k16 66 [some (.ref q0), some (.int x1), some (.int x2), some (.int x3), some (.int x4), some (.int x5)] [.int 1, .ref q0] G15)))))))))))))))
theorem wpt_X12_rules_0 {E : ZE} {l : Launch} {d b : Nat} {G0 : ZG} {Q : ZQ} {k : Nat} {q0 : Nat} {x1 : Int32} {x2 : Int32} {x3 : Int32} {x4 : Int32} {x5 : Int32} {G : ZG} (h : wp_X12_rules_0 E l d b G0 Q k q0 x1 x2 x3 x4 x5 G) : zW E l mX12_rules d b G0 Q k 0 [some (.ref q0), some (.int x1), some (.int x2), some (.int x3), some (.int x4), some (.int x5)] [] G := by
  unfold wp_X12_rules_0 at h
  refine z_aload_n (pc' := 1) dX12_rules_0 rfl rfl ?_
  refine z_iconst (x := 0) (pc' := 2) dX12_rules_1 (by decide) rfl ?_
  obtain ⟨h1, h⟩ := h
  obtain ⟨G1, hG⟩ : ∃ z, z = zsi G q0 0 0 := ⟨_, rfl⟩
  have h := h _ hG
  refine z_putI (ci := 13) (kf := 0) (pc' := 5) dX12_rules_2 kX12_178 (Or.inl rfl) (by decide) (by decide) rfl (Or.inl rfl) rfl h1 (zok_int _) ?_
  refine z_st hG ?_
  refine z_aload_n (pc' := 6) dX12_rules_5 rfl rfl ?_
  refine z_iload_n (pc' := 7) dX12_rules_6 rfl rfl ?_
  refine z_iconst (x := 1) (pc' := 8) dX12_rules_7 (by decide) rfl ?_
  refine z_sipush (x := 200) (pc' := 11) dX12_rules_8 (by decide) rfl ?_
  obtain ⟨d1, b1, Qz, hm, hdd, hb, hkx, hk⟩ := h
  refine z_callS (Y := mX12_in) (n := 3) (as := [.int x1, .int 1, .int 200]) (st := [.ref q0]) (pc' := 14) hm dX12_rules_11 kX12_317 sX12_in rfl rfl hdd hb (Nat.le_of_ble_eq_true rfl) (fun r G3 hz => ?_) hkx
  obtain ⟨y2, rfl, h⟩ := hk r G3 hz
  refine z_if_eq (pt := 61) (pc' := 17) dX12_rules_14 (by decide) rfl (fun hc => ?_) (fun hc => ?_)
  · have h := h.1 hc
    refine z_iconst (x := 1) (pc' := 62) dX12_rules_61 (by decide) rfl ?_
    refine z_goto (pc' := 66) dX12_rules_62 (by decide) ?_
    exact z_dr (ls' := [some (.ref q0), some (.int x1), some (.int x2), some (.int x3), some (.int x4), some (.int x5)]) ⟨rfl, rfl, rfl, rfl, rfl, rfl, trivial⟩ h
  · have h := h.2 hc
    refine z_iload_n (pc' := 18) dX12_rules_17 rfl rfl ?_
    refine z_iconst (x := 0) (pc' := 19) dX12_rules_18 (by decide) rfl ?_
    refine z_sipush (x := 10000) (pc' := 22) dX12_rules_19 (by decide) rfl ?_
    obtain ⟨d1, b1, Qz, hm, hdd, hb, hkx, hk⟩ := h
    refine z_callS (Y := mX12_in) (n := 3) (as := [.int x2, .int 0, .int 10000]) (st := [.ref q0]) (pc' := 25) hm dX12_rules_22 kX12_317 sX12_in rfl rfl hdd hb (Nat.le_of_ble_eq_true rfl) (fun r G6 hz => ?_) hkx
    obtain ⟨y5, rfl, h⟩ := hk r G6 hz
    refine z_if_eq (pt := 61) (pc' := 28) dX12_rules_25 (by decide) rfl (fun hc => ?_) (fun hc => ?_)
    · have h := h.1 hc
      refine z_iconst (x := 1) (pc' := 62) dX12_rules_61 (by decide) rfl ?_
      refine z_goto (pc' := 66) dX12_rules_62 (by decide) ?_
      exact z_dr (ls' := [some (.ref q0), some (.int x1), some (.int x2), some (.int x3), some (.int x4), some (.int x5)]) ⟨rfl, rfl, rfl, rfl, rfl, rfl, trivial⟩ h
    · have h := h.2 hc
      refine z_iload_n (pc' := 29) dX12_rules_28 rfl rfl ?_
      refine z_iconst (x := 0) (pc' := 30) dX12_rules_29 (by decide) rfl ?_
      refine z_sipush (x := 1000) (pc' := 33) dX12_rules_30 (by decide) rfl ?_
      obtain ⟨d1, b1, Qz, hm, hdd, hb, hkx, hk⟩ := h
      refine z_callS (Y := mX12_in) (n := 3) (as := [.int x3, .int 0, .int 1000]) (st := [.ref q0]) (pc' := 36) hm dX12_rules_33 kX12_317 sX12_in rfl rfl hdd hb (Nat.le_of_ble_eq_true rfl) (fun r G9 hz => ?_) hkx
      obtain ⟨y8, rfl, h⟩ := hk r G9 hz
      refine z_if_eq (pt := 61) (pc' := 39) dX12_rules_36 (by decide) rfl (fun hc => ?_) (fun hc => ?_)
      · have h := h.1 hc
        refine z_iconst (x := 1) (pc' := 62) dX12_rules_61 (by decide) rfl ?_
        refine z_goto (pc' := 66) dX12_rules_62 (by decide) ?_
        exact z_dr (ls' := [some (.ref q0), some (.int x1), some (.int x2), some (.int x3), some (.int x4), some (.int x5)]) ⟨rfl, rfl, rfl, rfl, rfl, rfl, trivial⟩ h
      · have h := h.2 hc
        refine z_iload (pc' := 41) dX12_rules_39 rfl rfl ?_
        refine z_iconst (x := 0) (pc' := 42) dX12_rules_41 (by decide) rfl ?_
        refine z_bipush (x := 60) (pc' := 44) dX12_rules_42 (by decide) rfl ?_
        obtain ⟨d1, b1, Qz, hm, hdd, hb, hkx, hk⟩ := h
        refine z_callS (Y := mX12_in) (n := 3) (as := [.int x4, .int 0, .int 60]) (st := [.ref q0]) (pc' := 47) hm dX12_rules_44 kX12_317 sX12_in rfl rfl hdd hb (Nat.le_of_ble_eq_true rfl) (fun r G12 hz => ?_) hkx
        obtain ⟨y11, rfl, h⟩ := hk r G12 hz
        refine z_if_eq (pt := 61) (pc' := 50) dX12_rules_47 (by decide) rfl (fun hc => ?_) (fun hc => ?_)
        · have h := h.1 hc
          refine z_iconst (x := 1) (pc' := 62) dX12_rules_61 (by decide) rfl ?_
          refine z_goto (pc' := 66) dX12_rules_62 (by decide) ?_
          exact z_dr (ls' := [some (.ref q0), some (.int x1), some (.int x2), some (.int x3), some (.int x4), some (.int x5)]) ⟨rfl, rfl, rfl, rfl, rfl, rfl, trivial⟩ h
        · have h := h.2 hc
          refine z_iload (pc' := 52) dX12_rules_50 rfl rfl ?_
          refine z_iconst (x := 0) (pc' := 53) dX12_rules_52 (by decide) rfl ?_
          refine z_bipush (x := 60) (pc' := 55) dX12_rules_53 (by decide) rfl ?_
          obtain ⟨d1, b1, Qz, hm, hdd, hb, hkx, hk⟩ := h
          refine z_callS (Y := mX12_in) (n := 3) (as := [.int x5, .int 0, .int 60]) (st := [.ref q0]) (pc' := 58) hm dX12_rules_55 kX12_317 sX12_in rfl rfl hdd hb (Nat.le_of_ble_eq_true rfl) (fun r G15 hz => ?_) hkx
          obtain ⟨y14, rfl, h⟩ := hk r G15 hz
          refine z_if_ne (pt := 65) (pc' := 61) dX12_rules_58 (by decide) rfl (fun hc => ?_) (fun hc => ?_)
          · have h := h.1 hc
            refine z_iconst (x := 0) (pc' := 66) dX12_rules_65 (by decide) rfl ?_
            exact z_dr (ls' := [some (.ref q0), some (.int x1), some (.int x2), some (.int x3), some (.int x4), some (.int x5)]) ⟨rfl, rfl, rfl, rfl, rfl, rfl, trivial⟩ h
          · have h := h.2 hc
            refine z_iconst (x := 1) (pc' := 62) dX12_rules_61 (by decide) rfl ?_
            refine z_goto (pc' := 66) dX12_rules_62 (by decide) ?_
            exact z_dr (ls' := [some (.ref q0), some (.int x1), some (.int x2), some (.int x3), some (.int x4), some (.int x5)]) ⟨rfl, rfl, rfl, rfl, rfl, rfl, trivial⟩ h
def wp_X12_rules_66 (E : ZE) (l : Launch) (d b : Nat) (G0 : ZG) (Q : ZQ) (k : Nat) (q0 : Nat) (x1 : Int32) (x2 : Int32) (x3 : Int32) (x4 : Int32) (x5 : Int32) (s0 : Int32) (p1 : Nat) (G : ZG) : Prop :=
  zob G p1 13 ∧
  xcI E l mX12_throwsIf d [.ref p1, .int s0, .int 1] G k (fun X G9 => Q (.inr X) G9) (fun y1 G2 k3 =>
  ((y1 = 0 →
    zob G2 q0 13 ∧
    ∀ G4, G4 = zsi G2 q0 37 x1 →
    zob G4 q0 13 ∧
    ∀ G5, G5 = zsi G4 q0 38 x2 →
    zob G5 q0 13 ∧
    ∀ G6, G6 = zsi G5 q0 39 x3 →
    zob G6 q0 13 ∧
    ∀ G7, G7 = zsi G6 q0 40 x4 →
    zob G7 q0 13 ∧
    ∀ G8, G8 = zsi G7 q0 41 x5 →
    Q (.inl none) G8) ∧
  (¬ (y1 = 0) →
    Q (.inl none) G2)))
theorem wpt_X12_rules_66 {E : ZE} {l : Launch} {d b : Nat} {G0 : ZG} {Q : ZQ} {k : Nat} {q0 : Nat} {x1 : Int32} {x2 : Int32} {x3 : Int32} {x4 : Int32} {x5 : Int32} {s0 : Int32} {p1 : Nat} {G : ZG} (h : wp_X12_rules_66 E l d b G0 Q k q0 x1 x2 x3 x4 x5 s0 p1 G) : zW E l mX12_rules d b G0 Q k 66 [some (.ref q0), some (.int x1), some (.int x2), some (.int x3), some (.int x4), some (.int x5)] [.int s0, .ref p1] G := by
  unfold wp_X12_rules_66 at h
  refine z_iconst (x := 1) (pc' := 67) dX12_rules_66 (by decide) rfl ?_
  obtain ⟨h1, h⟩ := h
  obtain ⟨d1, b1, Qz, hm, hdd, hb, hkx, hk⟩ := h
  refine z_callV (Y := mX12_throwsIf) (n := 2) (as := [.int s0, .int 1]) (st := []) (pc' := 70) (ci := 13) (q := p1) hm dX12_rules_67 kX12_321 vX12_throwsIf rfl rfl (by decide) rfl h1 hdd hb (Nat.le_of_ble_eq_true rfl) (fun r G2 hz => ?_) hkx
  obtain ⟨y1, rfl, h⟩ := hk r G2 hz
  refine z_if_eq (pt := 74) (pc' := 73) dX12_rules_70 (by decide) rfl (fun hc => ?_) (fun hc => ?_)
  · have h := h.1 hc
    refine z_aload_n (pc' := 75) dX12_rules_74 rfl rfl ?_
    refine z_iload_n (pc' := 76) dX12_rules_75 rfl rfl ?_
    obtain ⟨h1, h⟩ := h
    obtain ⟨G4, hG⟩ : ∃ z, z = zsi G2 q0 37 x1 := ⟨_, rfl⟩
    have h := h _ hG
    refine z_putI (ci := 13) (kf := 37) (pc' := 79) dX12_rules_76 kX12_76 (Or.inl rfl) (by decide) (by decide) rfl (Or.inl rfl) rfl h1 (zok_int _) ?_
    refine z_st hG ?_
    refine z_aload_n (pc' := 80) dX12_rules_79 rfl rfl ?_
    refine z_iload_n (pc' := 81) dX12_rules_80 rfl rfl ?_
    obtain ⟨h1, h⟩ := h
    obtain ⟨G5, hG⟩ : ∃ z, z = zsi G4 q0 38 x2 := ⟨_, rfl⟩
    have h := h _ hG
    refine z_putI (ci := 13) (kf := 38) (pc' := 84) dX12_rules_81 kX12_79 (Or.inl rfl) (by decide) (by decide) rfl (Or.inl rfl) rfl h1 (zok_int _) ?_
    refine z_st hG ?_
    refine z_aload_n (pc' := 85) dX12_rules_84 rfl rfl ?_
    refine z_iload_n (pc' := 86) dX12_rules_85 rfl rfl ?_
    obtain ⟨h1, h⟩ := h
    obtain ⟨G6, hG⟩ : ∃ z, z = zsi G5 q0 39 x3 := ⟨_, rfl⟩
    have h := h _ hG
    refine z_putI (ci := 13) (kf := 39) (pc' := 89) dX12_rules_86 kX12_82 (Or.inl rfl) (by decide) (by decide) rfl (Or.inl rfl) rfl h1 (zok_int _) ?_
    refine z_st hG ?_
    refine z_aload_n (pc' := 90) dX12_rules_89 rfl rfl ?_
    refine z_iload (pc' := 92) dX12_rules_90 rfl rfl ?_
    obtain ⟨h1, h⟩ := h
    obtain ⟨G7, hG⟩ : ∃ z, z = zsi G6 q0 40 x4 := ⟨_, rfl⟩
    have h := h _ hG
    refine z_putI (ci := 13) (kf := 40) (pc' := 95) dX12_rules_92 kX12_85 (Or.inl rfl) (by decide) (by decide) rfl (Or.inl rfl) rfl h1 (zok_int _) ?_
    refine z_st hG ?_
    refine z_aload_n (pc' := 96) dX12_rules_95 rfl rfl ?_
    refine z_iload (pc' := 98) dX12_rules_96 rfl rfl ?_
    obtain ⟨h1, h⟩ := h
    obtain ⟨G8, hG⟩ : ∃ z, z = zsi G7 q0 41 x5 := ⟨_, rfl⟩
    have h := h _ hG
    refine z_putI (ci := 13) (kf := 41) (pc' := 101) dX12_rules_98 kX12_88 (Or.inl rfl) (by decide) (by decide) rfl (Or.inl rfl) rfl h1 (zok_int _) ?_
    refine z_st hG ?_
    exact z_vret dX12_rules_101 rfl h
  · have h := h.2 hc
    exact z_vret dX12_rules_73 rfl h
def wp_X12_sets_0 (E : ZE) (l : Launch) (d b : Nat) (G0 : ZG) (Q : ZQ) (k : Nat) (q0 : Nat) (x1 : Int32) (x2 : Int32) (x3 : Int32) (G : ZG) : Prop :=
  zob G q0 13 ∧
  zar G (zrv G q0 65) 0 ∧ vp_in ((7 * x1) + x2) (zln G (zrv G q0 65)) ∧
  ∀ G1, G1 = zsi G (zrv G q0 65) ((7 * x1) + x2).toNatClampNeg x3 →
  Q (.inl none) G1
theorem wpt_X12_sets_0 {E : ZE} {l : Launch} {d b : Nat} {G0 : ZG} {Q : ZQ} {k : Nat} {q0 : Nat} {x1 : Int32} {x2 : Int32} {x3 : Int32} {G : ZG} (h : wp_X12_sets_0 E l d b G0 Q k q0 x1 x2 x3 G) : zW E l mX12_sets d b G0 Q k 0 [some (.ref q0), some (.int x1), some (.int x2), some (.int x3)] [] G := by
  unfold wp_X12_sets_0 at h
  refine z_aload_n (pc' := 1) dX12_sets_0 rfl rfl ?_
  obtain ⟨h1, h⟩ := h
  refine z_getR (ci := 13) (kf := 65) (pc' := 4) dX12_sets_1 kX12_148 (Or.inl rfl) (by decide) (by decide) rfl rfl h1 ?_
  refine z_bipush (x := 7) (pc' := 6) dX12_sets_4 (by decide) rfl ?_
  refine z_iload_n (pc' := 7) dX12_sets_6 rfl rfl ?_
  refine z_imul (pc' := 8) dX12_sets_7 rfl rfl ?_
  refine z_iload_n (pc' := 9) dX12_sets_8 rfl rfl ?_
  refine z_iadd (pc' := 10) dX12_sets_9 rfl rfl ?_
  refine z_iload_n (pc' := 11) dX12_sets_10 rfl rfl ?_
  obtain ⟨h1, h2, h⟩ := h
  obtain ⟨G1, hG⟩ : ∃ z, z = zsi G (zrv G q0 65) ((7 * x1) + x2).toNatClampNeg x3 := ⟨_, rfl⟩
  have h := h _ hG
  refine z_iast (pc' := 12) dX12_sets_11 rfl h1 h2  ?_
  refine z_st hG ?_
  exact z_vret dX12_sets_12 rfl h
def wp_X12_sign_0 (E : ZE) (l : Launch) (d b : Nat) (G0 : ZG) (Q : ZQ) (k : Nat) (q0 : Nat) (x1 : Int32) (x2 : Int32) (G : ZG) : Prop :=
  zob G q0 13 ∧
  ∀ G1, G1 = zsi G q0 0 0 →
  zob G1 q0 13 ∧
  xcI E l mX12_nobody d [.ref q0, .int x1] G1 k (fun X G9 => Q (.inr X) G9) (fun y2 G3 k4 =>
  zob G3 q0 13 ∧
  xcI E l mX12_throwsIf d [.ref q0, .int y2, .int 1] G3 k4 (fun X G9 => Q (.inr X) G9) (fun y5 G6 k7 =>
  ((y5 = 0 →
    zob G6 q0 13 ∧
    zar G6 (zrv G6 q0 33) 2 ∧ vp_in x1 (zln G6 (zrv G6 q0 33)) ∧
    (((ziv G6 (zrv G6 q0 33) x1.toNatClampNeg) = 0 →
      Q (.inl (some (.int (-1)))) G6) ∧
    (¬ ((ziv G6 (zrv G6 q0 33) x1.toNatClampNeg) = 0) →
      xcI E l mX12_in d [.int x2, .int 0, .int 23] G6 k7 (fun X G9 => Q (.inr X) G9) (fun y8 G9 k10 =>
      ((y8 = 0 →
        Q (.inl (some (.int (-1)))) G9) ∧
      (¬ (y8 = 0) →
        zob G9 q0 13 ∧
        (zar G9 (zrv G9 q0 32) 0 ∨ zrd G9 (zrv G9 q0 32) .int) ∧ vp_in ((24 * x1) + x2) (zln G9 (zrv G9 q0 32)) ∧
        Q (.inl (some (.int (ziv G9 (zrv G9 q0 32) ((24 * x1) + x2).toNatClampNeg)))) G9)))))) ∧
  (¬ (y5 = 0) →
    Q (.inl (some (.int 0))) G6))))
theorem wpt_X12_sign_0 {E : ZE} {l : Launch} {d b : Nat} {G0 : ZG} {Q : ZQ} {k : Nat} {q0 : Nat} {x1 : Int32} {x2 : Int32} {G : ZG} (h : wp_X12_sign_0 E l d b G0 Q k q0 x1 x2 G) : zW E l mX12_sign d b G0 Q k 0 [some (.ref q0), some (.int x1), some (.int x2)] [] G := by
  unfold wp_X12_sign_0 at h
  refine z_aload_n (pc' := 1) dX12_sign_0 rfl rfl ?_
  refine z_iconst (x := 0) (pc' := 2) dX12_sign_1 (by decide) rfl ?_
  obtain ⟨h1, h⟩ := h
  obtain ⟨G1, hG⟩ : ∃ z, z = zsi G q0 0 0 := ⟨_, rfl⟩
  have h := h _ hG
  refine z_putI (ci := 13) (kf := 0) (pc' := 5) dX12_sign_2 kX12_178 (Or.inl rfl) (by decide) (by decide) rfl (Or.inl rfl) rfl h1 (zok_int _) ?_
  refine z_st hG ?_
  refine z_aload_n (pc' := 6) dX12_sign_5 rfl rfl ?_
  refine z_aload_n (pc' := 7) dX12_sign_6 rfl rfl ?_
  refine z_iload_n (pc' := 8) dX12_sign_7 rfl rfl ?_
  obtain ⟨h1, h⟩ := h
  obtain ⟨d1, b1, Qz, hm, hdd, hb, hkx, hk⟩ := h
  refine z_callV (Y := mX12_nobody) (n := 1) (as := [.int x1]) (st := [.ref q0]) (pc' := 11) (ci := 13) (q := q0) hm dX12_sign_8 kX12_385 vX12_nobody rfl rfl (by decide) rfl h1 hdd hb (Nat.le_of_ble_eq_true rfl) (fun r G3 hz => ?_) hkx
  obtain ⟨y2, rfl, h⟩ := hk r G3 hz
  refine z_iconst (x := 1) (pc' := 12) dX12_sign_11 (by decide) rfl ?_
  obtain ⟨h1, h⟩ := h
  obtain ⟨d1, b1, Qz, hm, hdd, hb, hkx, hk⟩ := h
  refine z_callV (Y := mX12_throwsIf) (n := 2) (as := [.int y2, .int 1]) (st := []) (pc' := 15) (ci := 13) (q := q0) hm dX12_sign_12 kX12_321 vX12_throwsIf rfl rfl (by decide) rfl h1 hdd hb (Nat.le_of_ble_eq_true rfl) (fun r G6 hz => ?_) hkx
  obtain ⟨y5, rfl, h⟩ := hk r G6 hz
  refine z_if_eq (pt := 22) (pc' := 18) dX12_sign_15 (by decide) rfl (fun hc => ?_) (fun hc => ?_)
  · have h := h.1 hc
    refine z_aload_n (pc' := 23) dX12_sign_22 rfl rfl ?_
    obtain ⟨h1, h⟩ := h
    refine z_getR (ci := 13) (kf := 33) (pc' := 26) dX12_sign_23 kX12_67 (Or.inl rfl) (by decide) (by decide) rfl rfl h1 ?_
    refine z_iload_n (pc' := 27) dX12_sign_26 rfl rfl ?_
    obtain ⟨h1, h2, h⟩ := h
    refine z_zald (pc' := 28) dX12_sign_27 rfl h1 h2 ?_
    refine z_if_eq (pt := 55) (pc' := 31) dX12_sign_28 (by decide) rfl (fun hc => ?_) (fun hc => ?_)
    · have h := h.1 hc
      refine z_iconst (x := (-1)) (pc' := 56) dX12_sign_55 (by decide) rfl ?_
      exact z_iret dX12_sign_56 rfl h
    · have h := h.2 hc
      refine z_iload_n (pc' := 32) dX12_sign_31 rfl rfl ?_
      refine z_iconst (x := 0) (pc' := 33) dX12_sign_32 (by decide) rfl ?_
      refine z_bipush (x := 23) (pc' := 35) dX12_sign_33 (by decide) rfl ?_
      obtain ⟨d1, b1, Qz, hm, hdd, hb, hkx, hk⟩ := h
      refine z_callS (Y := mX12_in) (n := 3) (as := [.int x2, .int 0, .int 23]) (st := []) (pc' := 38) hm dX12_sign_35 kX12_317 sX12_in rfl rfl hdd hb (Nat.le_of_ble_eq_true rfl) (fun r G9 hz => ?_) hkx
      obtain ⟨y8, rfl, h⟩ := hk r G9 hz
      refine z_if_eq (pt := 55) (pc' := 41) dX12_sign_38 (by decide) rfl (fun hc => ?_) (fun hc => ?_)
      · have h := h.1 hc
        refine z_iconst (x := (-1)) (pc' := 56) dX12_sign_55 (by decide) rfl ?_
        exact z_iret dX12_sign_56 rfl h
      · have h := h.2 hc
        refine z_aload_n (pc' := 42) dX12_sign_41 rfl rfl ?_
        obtain ⟨h1, h⟩ := h
        refine z_getR (ci := 13) (kf := 32) (pc' := 45) dX12_sign_42 kX12_64 (Or.inl rfl) (by decide) (by decide) rfl rfl h1 ?_
        refine z_bipush (x := 24) (pc' := 47) dX12_sign_45 (by decide) rfl ?_
        refine z_iload_n (pc' := 48) dX12_sign_47 rfl rfl ?_
        refine z_imul (pc' := 49) dX12_sign_48 rfl rfl ?_
        refine z_iload_n (pc' := 50) dX12_sign_49 rfl rfl ?_
        refine z_iadd (pc' := 51) dX12_sign_50 rfl rfl ?_
        obtain ⟨h1, h2, h⟩ := h
        refine z_iald (pc' := 52) dX12_sign_51 rfl h1 h2 ?_
        refine z_goto (pc' := 56) dX12_sign_52 (by decide) ?_
        exact z_iret dX12_sign_56 rfl h
  · have h := h.2 hc
    refine z_iconst (x := 0) (pc' := 19) dX12_sign_18 (by decide) rfl ?_
    refine z_goto (pc' := 56) dX12_sign_19 (by decide) ?_
    exact z_iret dX12_sign_56 rfl h
def wp_X12_stateAt_0 (E : ZE) (l : Launch) (d b : Nat) (G0 : ZG) (Q : ZQ) (k : Nat) (x0 : Int32) (G : ZG) : Prop :=
  ((¬ x0 = 0 →
    ((¬ x0 = 1 →
      ((¬ x0 = 2 →
        Q (.inl (some (.int 5))) G) ∧
      (¬ (¬ x0 = 2) →
        Q (.inl (some (.int 4))) G))) ∧
    (¬ (¬ x0 = 1) →
      Q (.inl (some (.int 2))) G))) ∧
  (¬ (¬ x0 = 0) →
    Q (.inl (some (.int 0))) G))
theorem wpt_X12_stateAt_0 {E : ZE} {l : Launch} {d b : Nat} {G0 : ZG} {Q : ZQ} {k : Nat} {x0 : Int32} {G : ZG} (h : wp_X12_stateAt_0 E l d b G0 Q k x0 G) : zW E l mX12_stateAt d b G0 Q k 0 [some (.int x0)] [] G := by
  unfold wp_X12_stateAt_0 at h
  refine z_iload_n (pc' := 1) dX12_stateAt_0 rfl rfl ?_
  refine z_if_ne (pt := 8) (pc' := 4) dX12_stateAt_1 (by decide) rfl (fun hc => ?_) (fun hc => ?_)
  · have h := h.1 hc
    refine z_iload_n (pc' := 9) dX12_stateAt_8 rfl rfl ?_
    refine z_iconst (x := 1) (pc' := 10) dX12_stateAt_9 (by decide) rfl ?_
    refine z_icmp_ne (pt := 17) (pc' := 13) dX12_stateAt_10 (by decide) rfl (fun hc => ?_) (fun hc => ?_)
    · have h := h.1 hc
      refine z_iload_n (pc' := 18) dX12_stateAt_17 rfl rfl ?_
      refine z_iconst (x := 2) (pc' := 19) dX12_stateAt_18 (by decide) rfl ?_
      refine z_icmp_ne (pt := 26) (pc' := 22) dX12_stateAt_19 (by decide) rfl (fun hc => ?_) (fun hc => ?_)
      · have h := h.1 hc
        refine z_iconst (x := 5) (pc' := 27) dX12_stateAt_26 (by decide) rfl ?_
        exact z_iret dX12_stateAt_27 rfl h
      · have h := h.2 hc
        refine z_iconst (x := 4) (pc' := 23) dX12_stateAt_22 (by decide) rfl ?_
        refine z_goto (pc' := 27) dX12_stateAt_23 (by decide) ?_
        exact z_iret dX12_stateAt_27 rfl h
    · have h := h.2 hc
      refine z_iconst (x := 2) (pc' := 14) dX12_stateAt_13 (by decide) rfl ?_
      refine z_goto (pc' := 27) dX12_stateAt_14 (by decide) ?_
      exact z_iret dX12_stateAt_27 rfl h
  · have h := h.2 hc
    refine z_iconst (x := 0) (pc' := 5) dX12_stateAt_4 (by decide) rfl ?_
    refine z_goto (pc' := 27) dX12_stateAt_5 (by decide) ?_
    exact z_iret dX12_stateAt_27 rfl h
def wp_X12_takes_0 (E : ZE) (l : Launch) (d b : Nat) (G0 : ZG) (Q : ZQ) (k : Nat) (q0 : Nat) (x1 : Int32) (x2 : Int32) (G : ZG) : Prop :=
  ((¬ x1 = 0 →
    ((¬ x1 = 1 →
      ((¬ x1 = 2 →
        Q (.inl (some (.int 1))) G) ∧
      (¬ (¬ x1 = 2) →
        Q (.inl (some (.int 6))) G))) ∧
    (¬ (¬ x1 = 1) →
      zob G q0 13 ∧
      (zar G (zrv G q0 62) 0 ∨ zrd G (zrv G q0 62) .int) ∧ vp_in x2 (zln G (zrv G q0 62)) ∧
      Q (.inl (some (.int (3 + (ziv G (zrv G q0 62) x2.toNatClampNeg))))) G))) ∧
  (¬ (¬ x1 = 0) →
    zob G q0 13 ∧
    xcI E l mX12_now d [.ref q0, .int x2, .int 2] G k (fun X G9 => Q (.inr X) G9) (fun y1 G2 k3 =>
    ((0 ≤ y1 →
      Q (.inl (some (.int 1))) G2) ∧
    (¬ (0 ≤ y1) →
      Q (.inl (some (.int 2))) G2)))))
theorem wpt_X12_takes_0 {E : ZE} {l : Launch} {d b : Nat} {G0 : ZG} {Q : ZQ} {k : Nat} {q0 : Nat} {x1 : Int32} {x2 : Int32} {G : ZG} (h : wp_X12_takes_0 E l d b G0 Q k q0 x1 x2 G) : zW E l mX12_takes d b G0 Q k 0 [some (.ref q0), some (.int x1), some (.int x2)] [] G := by
  unfold wp_X12_takes_0 at h
  refine z_iload_n (pc' := 1) dX12_takes_0 rfl rfl ?_
  refine z_if_ne (pt := 21) (pc' := 4) dX12_takes_1 (by decide) rfl (fun hc => ?_) (fun hc => ?_)
  · have h := h.1 hc
    refine z_iload_n (pc' := 22) dX12_takes_21 rfl rfl ?_
    refine z_iconst (x := 1) (pc' := 23) dX12_takes_22 (by decide) rfl ?_
    refine z_icmp_ne (pt := 37) (pc' := 26) dX12_takes_23 (by decide) rfl (fun hc => ?_) (fun hc => ?_)
    · have h := h.1 hc
      refine z_iload_n (pc' := 38) dX12_takes_37 rfl rfl ?_
      refine z_iconst (x := 2) (pc' := 39) dX12_takes_38 (by decide) rfl ?_
      refine z_icmp_ne (pt := 47) (pc' := 42) dX12_takes_39 (by decide) rfl (fun hc => ?_) (fun hc => ?_)
      · have h := h.1 hc
        refine z_iconst (x := 1) (pc' := 48) dX12_takes_47 (by decide) rfl ?_
        exact z_iret dX12_takes_48 rfl h
      · have h := h.2 hc
        refine z_bipush (x := 6) (pc' := 44) dX12_takes_42 (by decide) rfl ?_
        refine z_goto (pc' := 48) dX12_takes_44 (by decide) ?_
        exact z_iret dX12_takes_48 rfl h
    · have h := h.2 hc
      refine z_iconst (x := 3) (pc' := 27) dX12_takes_26 (by decide) rfl ?_
      refine z_aload_n (pc' := 28) dX12_takes_27 rfl rfl ?_
      obtain ⟨h1, h⟩ := h
      refine z_getR (ci := 13) (kf := 62) (pc' := 31) dX12_takes_28 kX12_139 (Or.inl rfl) (by decide) (by decide) rfl rfl h1 ?_
      refine z_iload_n (pc' := 32) dX12_takes_31 rfl rfl ?_
      obtain ⟨h1, h2, h⟩ := h
      refine z_iald (pc' := 33) dX12_takes_32 rfl h1 h2 ?_
      refine z_iadd (pc' := 34) dX12_takes_33 rfl rfl ?_
      refine z_goto (pc' := 48) dX12_takes_34 (by decide) ?_
      exact z_iret dX12_takes_48 rfl h
  · have h := h.2 hc
    refine z_aload_n (pc' := 5) dX12_takes_4 rfl rfl ?_
    refine z_iload_n (pc' := 6) dX12_takes_5 rfl rfl ?_
    refine z_iconst (x := 2) (pc' := 7) dX12_takes_6 (by decide) rfl ?_
    obtain ⟨h1, h⟩ := h
    obtain ⟨d1, b1, Qz, hm, hdd, hb, hkx, hk⟩ := h
    refine z_callV (Y := mX12_now) (n := 2) (as := [.int x2, .int 2]) (st := []) (pc' := 10) (ci := 13) (q := q0) hm dX12_takes_7 kX12_434 vX12_now rfl rfl (by decide) rfl h1 hdd hb (Nat.le_of_ble_eq_true rfl) (fun r G2 hz => ?_) hkx
    obtain ⟨y1, rfl, h⟩ := hk r G2 hz
    refine z_if_ge (pt := 17) (pc' := 13) dX12_takes_10 (by decide) rfl (fun hc => ?_) (fun hc => ?_)
    · have h := h.1 hc
      refine z_iconst (x := 1) (pc' := 18) dX12_takes_17 (by decide) rfl ?_
      refine z_goto (pc' := 48) dX12_takes_18 (by decide) ?_
      exact z_iret dX12_takes_48 rfl h
    · have h := h.2 hc
      refine z_iconst (x := 2) (pc' := 14) dX12_takes_13 (by decide) rfl ?_
      refine z_goto (pc' := 48) dX12_takes_14 (by decide) ?_
      exact z_iret dX12_takes_48 rfl h
def wp_X12_tell_0 (E : ZE) (l : Launch) (d b : Nat) (G0 : ZG) (Q : ZQ) (k : Nat) (q0 : Nat) (x1 : Int32) (x2 : Int32) (x3 : Int32) (G : ZG) : Prop :=
  zob G q0 13 ∧
  ∀ G1, G1 = zsi G q0 0 0 →
  zob G1 q0 13 ∧
  xcI E l mX12_nobody d [.ref q0, .int x1] G1 k (fun X G9 => Q (.inr X) G9) (fun y2 G3 k4 =>
  ((¬ y2 = 0 →
    zW E l mX12_tell d b G0 Q k4 22 [some (.ref q0), some (.int x1), some (.int x2), some (.int x3), none, none] [.ref q0] G3) ∧
  (¬ (¬ y2 = 0) →
    zob G3 q0 13 ∧
    xcI E l mX12_nobody d [.ref q0, .int x2] G3 k4 (fun X G9 => Q (.inr X) G9) (fun y5 G6 k7 =>
    ((y5 = 0 →
      zob G6 q0 13 ∧
      xcI E l mX12_throwsIf d [.ref q0, .int 0, .int 1] G6 k7 (fun X G9 => Q (.inr X) G9) (fun y8 G9 k10 =>
      ((¬ y8 = 0 →
        Q (.inl (some (.int 0))) G9) ∧
      (¬ (¬ y8 = 0) →
        ((¬ x1 = x2 →
          zW E l mX12_tell d b G0 Q k10 45 [some (.ref q0), some (.int x1), some (.int x2), some (.int x3), none, none] [.int 0, .ref q0] G9) ∧
        (¬ (¬ x1 = x2) →
          zW E l mX12_tell d b G0 Q k10 45 [some (.ref q0), some (.int x1), some (.int x2), some (.int x3), none, none] [.int 1, .ref q0] G9)))))) ∧
    (¬ (y5 = 0) →
      zW E l mX12_tell d b G0 Q k7 22 [some (.ref q0), some (.int x1), some (.int x2), some (.int x3), none, none] [.ref q0] G6))))))
theorem wpt_X12_tell_0 {E : ZE} {l : Launch} {d b : Nat} {G0 : ZG} {Q : ZQ} {k : Nat} {q0 : Nat} {x1 : Int32} {x2 : Int32} {x3 : Int32} {G : ZG} (h : wp_X12_tell_0 E l d b G0 Q k q0 x1 x2 x3 G) : zW E l mX12_tell d b G0 Q k 0 [some (.ref q0), some (.int x1), some (.int x2), some (.int x3), none, none] [] G := by
  unfold wp_X12_tell_0 at h
  refine z_aload_n (pc' := 1) dX12_tell_0 rfl rfl ?_
  refine z_iconst (x := 0) (pc' := 2) dX12_tell_1 (by decide) rfl ?_
  obtain ⟨h1, h⟩ := h
  obtain ⟨G1, hG⟩ : ∃ z, z = zsi G q0 0 0 := ⟨_, rfl⟩
  have h := h _ hG
  refine z_putI (ci := 13) (kf := 0) (pc' := 5) dX12_tell_2 kX12_178 (Or.inl rfl) (by decide) (by decide) rfl (Or.inl rfl) rfl h1 (zok_int _) ?_
  refine z_st hG ?_
  refine z_aload_n (pc' := 6) dX12_tell_5 rfl rfl ?_
  refine z_aload_n (pc' := 7) dX12_tell_6 rfl rfl ?_
  refine z_iload_n (pc' := 8) dX12_tell_7 rfl rfl ?_
  obtain ⟨h1, h⟩ := h
  obtain ⟨d1, b1, Qz, hm, hdd, hb, hkx, hk⟩ := h
  refine z_callV (Y := mX12_nobody) (n := 1) (as := [.int x1]) (st := [.ref q0]) (pc' := 11) (ci := 13) (q := q0) hm dX12_tell_8 kX12_385 vX12_nobody rfl rfl (by decide) rfl h1 hdd hb (Nat.le_of_ble_eq_true rfl) (fun r G3 hz => ?_) hkx
  obtain ⟨y2, rfl, h⟩ := hk r G3 hz
  refine z_if_ne (pt := 22) (pc' := 14) dX12_tell_11 (by decide) rfl (fun hc => ?_) (fun hc => ?_)
  · have h := h.1 hc
    exact z_dr (ls' := [some (.ref q0), some (.int x1), some (.int x2), some (.int x3), none, none]) ⟨rfl, rfl, rfl, rfl, trivial⟩ h
  · have h := h.2 hc
    refine z_aload_n (pc' := 15) dX12_tell_14 rfl rfl ?_
    refine z_iload_n (pc' := 16) dX12_tell_15 rfl rfl ?_
    obtain ⟨h1, h⟩ := h
    obtain ⟨d1, b1, Qz, hm, hdd, hb, hkx, hk⟩ := h
    refine z_callV (Y := mX12_nobody) (n := 1) (as := [.int x2]) (st := [.ref q0]) (pc' := 19) (ci := 13) (q := q0) hm dX12_tell_16 kX12_385 vX12_nobody rfl rfl (by decide) rfl h1 hdd hb (Nat.le_of_ble_eq_true rfl) (fun r G6 hz => ?_) hkx
    obtain ⟨y5, rfl, h⟩ := hk r G6 hz
    refine z_if_eq (pt := 26) (pc' := 22) dX12_tell_19 (by decide) rfl (fun hc => ?_) (fun hc => ?_)
    · have h := h.1 hc
      refine z_iconst (x := 0) (pc' := 27) dX12_tell_26 (by decide) rfl ?_
      refine z_iconst (x := 1) (pc' := 28) dX12_tell_27 (by decide) rfl ?_
      obtain ⟨h1, h⟩ := h
      obtain ⟨d1, b1, Qz, hm, hdd, hb, hkx, hk⟩ := h
      refine z_callV (Y := mX12_throwsIf) (n := 2) (as := [.int 0, .int 1]) (st := []) (pc' := 31) (ci := 13) (q := q0) hm dX12_tell_28 kX12_321 vX12_throwsIf rfl rfl (by decide) rfl h1 hdd hb (Nat.le_of_ble_eq_true rfl) (fun r G9 hz => ?_) hkx
      obtain ⟨y8, rfl, h⟩ := hk r G9 hz
      refine z_if_ne (pt := 52) (pc' := 34) dX12_tell_31 (by decide) rfl (fun hc => ?_) (fun hc => ?_)
      · have h := h.1 hc
        refine z_iconst (x := 0) (pc' := 53) dX12_tell_52 (by decide) rfl ?_
        exact z_iret dX12_tell_53 rfl h
      · have h := h.2 hc
        refine z_aload_n (pc' := 35) dX12_tell_34 rfl rfl ?_
        refine z_iload_n (pc' := 36) dX12_tell_35 rfl rfl ?_
        refine z_iload_n (pc' := 37) dX12_tell_36 rfl rfl ?_
        refine z_icmp_ne (pt := 44) (pc' := 40) dX12_tell_37 (by decide) rfl (fun hc => ?_) (fun hc => ?_)
        · have h := h.1 hc
          refine z_iconst (x := 0) (pc' := 45) dX12_tell_44 (by decide) rfl ?_
          exact z_dr (ls' := [some (.ref q0), some (.int x1), some (.int x2), some (.int x3), none, none]) ⟨rfl, rfl, rfl, rfl, trivial⟩ h
        · have h := h.2 hc
          refine z_iconst (x := 1) (pc' := 41) dX12_tell_40 (by decide) rfl ?_
          refine z_goto (pc' := 45) dX12_tell_41 (by decide) ?_
          exact z_dr (ls' := [some (.ref q0), some (.int x1), some (.int x2), some (.int x3), none, none]) ⟨rfl, rfl, rfl, rfl, trivial⟩ h
    · have h := h.2 hc
      exact z_dr (ls' := [some (.ref q0), some (.int x1), some (.int x2), some (.int x3), none, none]) ⟨rfl, rfl, rfl, rfl, trivial⟩ h
def wp_X12_tell_22 (E : ZE) (l : Launch) (d b : Nat) (G0 : ZG) (Q : ZQ) (k : Nat) (q0 : Nat) (x1 : Int32) (x2 : Int32) (x3 : Int32) (p0 : Nat) (G : ZG) : Prop :=
  zob G p0 13 ∧
  xcI E l mX12_throwsIf d [.ref p0, .int 1, .int 1] G k (fun X G9 => Q (.inr X) G9) (fun y1 G2 k3 =>
  ((¬ y1 = 0 →
    Q (.inl (some (.int 0))) G2) ∧
  (¬ (¬ y1 = 0) →
    ((¬ x1 = x2 →
      zW E l mX12_tell d b G0 Q k3 45 [some (.ref q0), some (.int x1), some (.int x2), some (.int x3), none, none] [.int 0, .ref q0] G2) ∧
    (¬ (¬ x1 = x2) →
      zW E l mX12_tell d b G0 Q k3 45 [some (.ref q0), some (.int x1), some (.int x2), some (.int x3), none, none] [.int 1, .ref q0] G2)))))
theorem wpt_X12_tell_22 {E : ZE} {l : Launch} {d b : Nat} {G0 : ZG} {Q : ZQ} {k : Nat} {q0 : Nat} {x1 : Int32} {x2 : Int32} {x3 : Int32} {p0 : Nat} {G : ZG} (h : wp_X12_tell_22 E l d b G0 Q k q0 x1 x2 x3 p0 G) : zW E l mX12_tell d b G0 Q k 22 [some (.ref q0), some (.int x1), some (.int x2), some (.int x3), none, none] [.ref p0] G := by
  unfold wp_X12_tell_22 at h
  refine z_iconst (x := 1) (pc' := 23) dX12_tell_22 (by decide) rfl ?_
  refine z_goto (pc' := 27) dX12_tell_23 (by decide) ?_
  refine z_iconst (x := 1) (pc' := 28) dX12_tell_27 (by decide) rfl ?_
  obtain ⟨h1, h⟩ := h
  obtain ⟨d1, b1, Qz, hm, hdd, hb, hkx, hk⟩ := h
  refine z_callV (Y := mX12_throwsIf) (n := 2) (as := [.int 1, .int 1]) (st := []) (pc' := 31) (ci := 13) (q := p0) hm dX12_tell_28 kX12_321 vX12_throwsIf rfl rfl (by decide) rfl h1 hdd hb (Nat.le_of_ble_eq_true rfl) (fun r G2 hz => ?_) hkx
  obtain ⟨y1, rfl, h⟩ := hk r G2 hz
  refine z_if_ne (pt := 52) (pc' := 34) dX12_tell_31 (by decide) rfl (fun hc => ?_) (fun hc => ?_)
  · have h := h.1 hc
    refine z_iconst (x := 0) (pc' := 53) dX12_tell_52 (by decide) rfl ?_
    exact z_iret dX12_tell_53 rfl h
  · have h := h.2 hc
    refine z_aload_n (pc' := 35) dX12_tell_34 rfl rfl ?_
    refine z_iload_n (pc' := 36) dX12_tell_35 rfl rfl ?_
    refine z_iload_n (pc' := 37) dX12_tell_36 rfl rfl ?_
    refine z_icmp_ne (pt := 44) (pc' := 40) dX12_tell_37 (by decide) rfl (fun hc => ?_) (fun hc => ?_)
    · have h := h.1 hc
      refine z_iconst (x := 0) (pc' := 45) dX12_tell_44 (by decide) rfl ?_
      exact z_dr (ls' := [some (.ref q0), some (.int x1), some (.int x2), some (.int x3), none, none]) ⟨rfl, rfl, rfl, rfl, trivial⟩ h
    · have h := h.2 hc
      refine z_iconst (x := 1) (pc' := 41) dX12_tell_40 (by decide) rfl ?_
      refine z_goto (pc' := 45) dX12_tell_41 (by decide) ?_
      exact z_dr (ls' := [some (.ref q0), some (.int x1), some (.int x2), some (.int x3), none, none]) ⟨rfl, rfl, rfl, rfl, trivial⟩ h
def wp_X12_tell_45 (E : ZE) (l : Launch) (d b : Nat) (G0 : ZG) (Q : ZQ) (k : Nat) (q0 : Nat) (x1 : Int32) (x2 : Int32) (x3 : Int32) (s0 : Int32) (p1 : Nat) (G : ZG) : Prop :=
  zob G p1 13 ∧
  xcI E l mX12_throwsIf d [.ref p1, .int s0, .int 2] G k (fun X G9 => Q (.inr X) G9) (fun y1 G2 k3 =>
  ((y1 = 0 →
    zob G2 q0 13 ∧
    ((x3 = 0 →
      zW E l mX12_tell d b G0 Q k3 73 [some (.ref q0), some (.int x1), some (.int x2), some (.int x3), none, none] [.int 1, .int ((80 * x1) + x2), .ref (zrv G2 q0 35)] G2) ∧
    (¬ (x3 = 0) →
      zW E l mX12_tell d b G0 Q k3 73 [some (.ref q0), some (.int x1), some (.int x2), some (.int x3), none, none] [.int 2, .int ((80 * x1) + x2), .ref (zrv G2 q0 35)] G2))) ∧
  (¬ (y1 = 0) →
    Q (.inl (some (.int 0))) G2)))
theorem wpt_X12_tell_45 {E : ZE} {l : Launch} {d b : Nat} {G0 : ZG} {Q : ZQ} {k : Nat} {q0 : Nat} {x1 : Int32} {x2 : Int32} {x3 : Int32} {s0 : Int32} {p1 : Nat} {G : ZG} (h : wp_X12_tell_45 E l d b G0 Q k q0 x1 x2 x3 s0 p1 G) : zW E l mX12_tell d b G0 Q k 45 [some (.ref q0), some (.int x1), some (.int x2), some (.int x3), none, none] [.int s0, .ref p1] G := by
  unfold wp_X12_tell_45 at h
  refine z_iconst (x := 2) (pc' := 46) dX12_tell_45 (by decide) rfl ?_
  obtain ⟨h1, h⟩ := h
  obtain ⟨d1, b1, Qz, hm, hdd, hb, hkx, hk⟩ := h
  refine z_callV (Y := mX12_throwsIf) (n := 2) (as := [.int s0, .int 2]) (st := []) (pc' := 49) (ci := 13) (q := p1) hm dX12_tell_46 kX12_321 vX12_throwsIf rfl rfl (by decide) rfl h1 hdd hb (Nat.le_of_ble_eq_true rfl) (fun r G2 hz => ?_) hkx
  obtain ⟨y1, rfl, h⟩ := hk r G2 hz
  refine z_if_eq (pt := 54) (pc' := 52) dX12_tell_49 (by decide) rfl (fun hc => ?_) (fun hc => ?_)
  · have h := h.1 hc
    refine z_aload_n (pc' := 55) dX12_tell_54 rfl rfl ?_
    obtain ⟨h1, h⟩ := h
    refine z_getR (ci := 13) (kf := 35) (pc' := 58) dX12_tell_55 kX12_70 (Or.inl rfl) (by decide) (by decide) rfl rfl h1 ?_
    refine z_bipush (x := 80) (pc' := 60) dX12_tell_58 (by decide) rfl ?_
    refine z_iload_n (pc' := 61) dX12_tell_60 rfl rfl ?_
    refine z_imul (pc' := 62) dX12_tell_61 rfl rfl ?_
    refine z_iload_n (pc' := 63) dX12_tell_62 rfl rfl ?_
    refine z_iadd (pc' := 64) dX12_tell_63 rfl rfl ?_
    refine z_iload_n (pc' := 65) dX12_tell_64 rfl rfl ?_
    refine z_if_eq (pt := 72) (pc' := 68) dX12_tell_65 (by decide) rfl (fun hc => ?_) (fun hc => ?_)
    · have h := h.1 hc
      refine z_iconst (x := 1) (pc' := 73) dX12_tell_72 (by decide) rfl ?_
      exact z_dr (ls' := [some (.ref q0), some (.int x1), some (.int x2), some (.int x3), none, none]) ⟨rfl, rfl, rfl, rfl, trivial⟩ h
    · have h := h.2 hc
      refine z_iconst (x := 2) (pc' := 69) dX12_tell_68 (by decide) rfl ?_
      refine z_goto (pc' := 73) dX12_tell_69 (by decide) ?_
      exact z_dr (ls' := [some (.ref q0), some (.int x1), some (.int x2), some (.int x3), none, none]) ⟨rfl, rfl, rfl, rfl, trivial⟩ h
  · have h := h.2 hc
    refine z_iconst (x := 0) (pc' := 53) dX12_tell_52 (by decide) rfl ?_
    exact z_iret dX12_tell_53 rfl h
def wp_X12_tell_73 (E : ZE) (l : Launch) (d b : Nat) (G0 : ZG) (Q : ZQ) (k : Nat) (q0 : Nat) (x1 : Int32) (x2 : Int32) (x3 : Int32) (s0 : Int32) (s1 : Int32) (p2 : Nat) (G : ZG) : Prop :=
  zar G p2 0 ∧ vp_in s1 (zln G p2) ∧
  ∀ G1, G1 = zsi G p2 s1.toNatClampNeg s0 →
  zob G1 q0 13 ∧
  ((x3 = 0 →
    zar G1 (zrv G1 q0 35) 0 ∧ vp_in ((80 * x2) + x1) (zln G1 (zrv G1 q0 35)) ∧
    ∀ G2, G2 = zsi G1 (zrv G1 q0 35) ((80 * x2) + x1).toNatClampNeg 1 →
    zW E l mX12_tell d b G0 Q k 100 [some (.ref q0), none, none, none, some (.int 0), some (.int 0)] [] G2) ∧
  (¬ (x3 = 0) →
    zar G1 (zrv G1 q0 35) 0 ∧ vp_in ((80 * x2) + x1) (zln G1 (zrv G1 q0 35)) ∧
    ∀ G3, G3 = zsi G1 (zrv G1 q0 35) ((80 * x2) + x1).toNatClampNeg 2 →
    zW E l mX12_tell d b G0 Q k 100 [some (.ref q0), none, none, none, some (.int 0), some (.int 0)] [] G3))
theorem wpt_X12_tell_73 {E : ZE} {l : Launch} {d b : Nat} {G0 : ZG} {Q : ZQ} {k : Nat} {q0 : Nat} {x1 : Int32} {x2 : Int32} {x3 : Int32} {s0 : Int32} {s1 : Int32} {p2 : Nat} {G : ZG} (h : wp_X12_tell_73 E l d b G0 Q k q0 x1 x2 x3 s0 s1 p2 G) : zW E l mX12_tell d b G0 Q k 73 [some (.ref q0), some (.int x1), some (.int x2), some (.int x3), none, none] [.int s0, .int s1, .ref p2] G := by
  unfold wp_X12_tell_73 at h
  obtain ⟨h1, h2, h⟩ := h
  obtain ⟨G1, hG⟩ : ∃ z, z = zsi G p2 s1.toNatClampNeg s0 := ⟨_, rfl⟩
  have h := h _ hG
  refine z_iast (pc' := 74) dX12_tell_73 rfl h1 h2  ?_
  refine z_st hG ?_
  refine z_aload_n (pc' := 75) dX12_tell_74 rfl rfl ?_
  obtain ⟨h1, h⟩ := h
  refine z_getR (ci := 13) (kf := 35) (pc' := 78) dX12_tell_75 kX12_70 (Or.inl rfl) (by decide) (by decide) rfl rfl h1 ?_
  refine z_bipush (x := 80) (pc' := 80) dX12_tell_78 (by decide) rfl ?_
  refine z_iload_n (pc' := 81) dX12_tell_80 rfl rfl ?_
  refine z_imul (pc' := 82) dX12_tell_81 rfl rfl ?_
  refine z_iload_n (pc' := 83) dX12_tell_82 rfl rfl ?_
  refine z_iadd (pc' := 84) dX12_tell_83 rfl rfl ?_
  refine z_iload_n (pc' := 85) dX12_tell_84 rfl rfl ?_
  refine z_if_eq (pt := 92) (pc' := 88) dX12_tell_85 (by decide) rfl (fun hc => ?_) (fun hc => ?_)
  · have h := h.1 hc
    refine z_iconst (x := 1) (pc' := 93) dX12_tell_92 (by decide) rfl ?_
    obtain ⟨h1, h2, h⟩ := h
    obtain ⟨G2, hG⟩ : ∃ z, z = zsi G1 (zrv G1 q0 35) ((80 * x2) + x1).toNatClampNeg 1 := ⟨_, rfl⟩
    have h := h _ hG
    refine z_iast (pc' := 94) dX12_tell_93 rfl h1 h2  ?_
    refine z_st hG ?_
    refine z_iconst (x := 0) (pc' := 95) dX12_tell_94 (by decide) rfl ?_
    refine z_istore (pc' := 97) dX12_tell_95 (by decide) rfl ?_
    refine z_iconst (x := 0) (pc' := 98) dX12_tell_97 (by decide) rfl ?_
    refine z_istore (pc' := 100) dX12_tell_98 (by decide) rfl ?_
    exact z_dr (ls' := [some (.ref q0), none, none, none, some (.int 0), some (.int 0)]) ⟨rfl, rfl, rfl, trivial⟩ h
  · have h := h.2 hc
    refine z_iconst (x := 2) (pc' := 89) dX12_tell_88 (by decide) rfl ?_
    refine z_goto (pc' := 93) dX12_tell_89 (by decide) ?_
    obtain ⟨h1, h2, h⟩ := h
    obtain ⟨G3, hG⟩ : ∃ z, z = zsi G1 (zrv G1 q0 35) ((80 * x2) + x1).toNatClampNeg 2 := ⟨_, rfl⟩
    have h := h _ hG
    refine z_iast (pc' := 94) dX12_tell_93 rfl h1 h2  ?_
    refine z_st hG ?_
    refine z_iconst (x := 0) (pc' := 95) dX12_tell_94 (by decide) rfl ?_
    refine z_istore (pc' := 97) dX12_tell_95 (by decide) rfl ?_
    refine z_iconst (x := 0) (pc' := 98) dX12_tell_97 (by decide) rfl ?_
    refine z_istore (pc' := 100) dX12_tell_98 (by decide) rfl ?_
    exact z_dr (ls' := [some (.ref q0), none, none, none, some (.int 0), some (.int 0)]) ⟨rfl, rfl, rfl, trivial⟩ h
def wp_X12_tell_100 (E : ZE) (l : Launch) (d b : Nat) (G0 : ZG) (Q : ZQ) (k : Nat) (q0 : Nat) (x4 : Int32) (x5 : Int32) (G : ZG) : Prop :=
  zob G q0 13 ∧
  (((ziv G q0 66) ≤ x5 →
    Q (.inl (some (.int x4))) G) ∧
  (¬ ((ziv G q0 66) ≤ x5) →
    zob G q0 13 ∧
    xcI E l mX12_now d [.ref q0, .int x5, .int 0] G k (fun X G9 => Q (.inr X) G9) (fun y1 G2 k3 =>
    ((y1 = 3 →
      zob G2 q0 13 ∧
      xcV E l mX12_checks d [.ref q0, .int x5] G2 k3 (fun X G9 => Q (.inr X) G9) (fun G4 k5 =>
      zob G4 q0 13 ∧
      xcI E l mX12_now d [.ref q0, .int x5, .int 0] G4 k5 (fun X G9 => Q (.inr X) G9) (fun y6 G7 k8 =>
      ((y6 = 3 →
        zW E l mX12_tell d b G0 Q k8 100 [some (.ref q0), none, none, none, some (.int (x4 + 0)), some (.int (x5 + 1))] [] G7) ∧
      (¬ (y6 = 3) →
        zW E l mX12_tell d b G0 Q k8 100 [some (.ref q0), none, none, none, some (.int (x4 + 1)), some (.int (x5 + 1))] [] G7))))) ∧
    (¬ (y1 = 3) →
      zW E l mX12_tell d b G0 Q k3 100 [some (.ref q0), none, none, none, some (.int x4), some (.int (x5 + 1))] [] G2)))))
theorem wpt_X12_tell_100 {E : ZE} {l : Launch} {d b : Nat} {G0 : ZG} {Q : ZQ} {k : Nat} {q0 : Nat} {x4 : Int32} {x5 : Int32} {G : ZG} (h : wp_X12_tell_100 E l d b G0 Q k q0 x4 x5 G) : zW E l mX12_tell d b G0 Q k 100 [some (.ref q0), none, none, none, some (.int x4), some (.int x5)] [] G := by
  unfold wp_X12_tell_100 at h
  refine z_iload (pc' := 102) dX12_tell_100 rfl rfl ?_
  refine z_aload_n (pc' := 103) dX12_tell_102 rfl rfl ?_
  obtain ⟨h1, h⟩ := h
  refine z_getI (ci := 13) (kf := 66) (pc' := 106) dX12_tell_103 kX12_412 (Or.inl rfl) (by decide) (by decide) rfl rfl h1 ?_
  refine z_icmp_ge (pt := 156) (pc' := 109) dX12_tell_106 (by decide) rfl (fun hc => ?_) (fun hc => ?_)
  · have h := h.1 hc
    refine z_iload (pc' := 158) dX12_tell_156 rfl rfl ?_
    exact z_iret dX12_tell_158 rfl h
  · have h := h.2 hc
    refine z_aload_n (pc' := 110) dX12_tell_109 rfl rfl ?_
    refine z_iload (pc' := 112) dX12_tell_110 rfl rfl ?_
    refine z_iconst (x := 0) (pc' := 113) dX12_tell_112 (by decide) rfl ?_
    obtain ⟨h1, h⟩ := h
    obtain ⟨d1, b1, Qz, hm, hdd, hb, hkx, hk⟩ := h
    refine z_callV (Y := mX12_now) (n := 2) (as := [.int x5, .int 0]) (st := []) (pc' := 116) (ci := 13) (q := q0) hm dX12_tell_113 kX12_434 vX12_now rfl rfl (by decide) rfl h1 hdd hb (Nat.le_of_ble_eq_true rfl) (fun r G2 hz => ?_) hkx
    obtain ⟨y1, rfl, h⟩ := hk r G2 hz
    refine z_iconst (x := 3) (pc' := 117) dX12_tell_116 (by decide) rfl ?_
    refine z_icmp_eq (pt := 123) (pc' := 120) dX12_tell_117 (by decide) rfl (fun hc => ?_) (fun hc => ?_)
    · have h := h.1 hc
      refine z_aload_n (pc' := 124) dX12_tell_123 rfl rfl ?_
      refine z_iload (pc' := 126) dX12_tell_124 rfl rfl ?_
      obtain ⟨h1, h⟩ := h
      obtain ⟨d1, b1, Qz, hm, hdd, hb, hkx, hk⟩ := h
      refine z_callV (Y := mX12_checks) (n := 1) (as := [.int x5]) (st := []) (pc' := 129) (ci := 13) (q := q0) hm dX12_tell_126 kX12_440 vX12_checks rfl rfl (by decide) rfl h1 hdd hb (Nat.le_of_ble_eq_true rfl) (fun r G4 hz => ?_) hkx
      obtain ⟨rfl, h⟩ := hk r G4 hz
      refine z_iload (pc' := 131) dX12_tell_129 rfl rfl ?_
      refine z_aload_n (pc' := 132) dX12_tell_131 rfl rfl ?_
      refine z_iload (pc' := 134) dX12_tell_132 rfl rfl ?_
      refine z_iconst (x := 0) (pc' := 135) dX12_tell_134 (by decide) rfl ?_
      obtain ⟨h1, h⟩ := h
      obtain ⟨d1, b1, Qz, hm, hdd, hb, hkx, hk⟩ := h
      refine z_callV (Y := mX12_now) (n := 2) (as := [.int x5, .int 0]) (st := [.int x4]) (pc' := 138) (ci := 13) (q := q0) hm dX12_tell_135 kX12_434 vX12_now rfl rfl (by decide) rfl h1 hdd hb (Nat.le_of_ble_eq_true rfl) (fun r G7 hz => ?_) hkx
      obtain ⟨y6, rfl, h⟩ := hk r G7 hz
      refine z_iconst (x := 3) (pc' := 139) dX12_tell_138 (by decide) rfl ?_
      refine z_icmp_eq (pt := 146) (pc' := 142) dX12_tell_139 (by decide) rfl (fun hc => ?_) (fun hc => ?_)
      · have h := h.1 hc
        refine z_iconst (x := 0) (pc' := 147) dX12_tell_146 (by decide) rfl ?_
        refine z_iadd (pc' := 148) dX12_tell_147 rfl rfl ?_
        refine z_istore (pc' := 150) dX12_tell_148 (by decide) rfl ?_
        refine z_iinc (y := x5 + 1) (pc' := 153) dX12_tell_150 rfl (zinc_1 _) (by decide) rfl ?_
        refine z_goto (pc' := 100) dX12_tell_153 (by decide) ?_
        exact z_dr (ls' := [some (.ref q0), none, none, none, some (.int (x4 + 0)), some (.int (x5 + 1))]) ⟨rfl, rfl, rfl, trivial⟩ h
      · have h := h.2 hc
        refine z_iconst (x := 1) (pc' := 143) dX12_tell_142 (by decide) rfl ?_
        refine z_goto (pc' := 147) dX12_tell_143 (by decide) ?_
        refine z_iadd (pc' := 148) dX12_tell_147 rfl rfl ?_
        refine z_istore (pc' := 150) dX12_tell_148 (by decide) rfl ?_
        refine z_iinc (y := x5 + 1) (pc' := 153) dX12_tell_150 rfl (zinc_1 _) (by decide) rfl ?_
        refine z_goto (pc' := 100) dX12_tell_153 (by decide) ?_
        exact z_dr (ls' := [some (.ref q0), none, none, none, some (.int (x4 + 1)), some (.int (x5 + 1))]) ⟨rfl, rfl, rfl, trivial⟩ h
    · have h := h.2 hc
      refine z_goto (pc' := 150) dX12_tell_120 (by decide) ?_
      refine z_iinc (y := x5 + 1) (pc' := 153) dX12_tell_150 rfl (zinc_1 _) (by decide) rfl ?_
      refine z_goto (pc' := 100) dX12_tell_153 (by decide) ?_
      exact z_dr (ls' := [some (.ref q0), none, none, none, some (.int x4), some (.int (x5 + 1))]) ⟨rfl, rfl, rfl, trivial⟩ h
def wp_X12_thrown_0 (E : ZE) (l : Launch) (d b : Nat) (G0 : ZG) (Q : ZQ) (k : Nat) (q0 : Nat) (G : ZG) : Prop :=
  zob G q0 13 ∧
  Q (.inl (some (.int (ziv G q0 0)))) G
theorem wpt_X12_thrown_0 {E : ZE} {l : Launch} {d b : Nat} {G0 : ZG} {Q : ZQ} {k : Nat} {q0 : Nat} {G : ZG} (h : wp_X12_thrown_0 E l d b G0 Q k q0 G) : zW E l mX12_thrown d b G0 Q k 0 [some (.ref q0)] [] G := by
  unfold wp_X12_thrown_0 at h
  refine z_aload_n (pc' := 1) dX12_thrown_0 rfl rfl ?_
  obtain ⟨h1, h⟩ := h
  refine z_getI (ci := 13) (kf := 0) (pc' := 4) dX12_thrown_1 kX12_178 (Or.inl rfl) (by decide) (by decide) rfl rfl h1 ?_
  exact z_iret dX12_thrown_4 rfl h
def wp_X12_throwsIf_0 (E : ZE) (l : Launch) (d b : Nat) (G0 : ZG) (Q : ZQ) (k : Nat) (q0 : Nat) (x1 : Int32) (x2 : Int32) (G : ZG) : Prop :=
  ((x1 = 0 →
    narrow .boolean (.int x1) = .int x1 ∧ Q (.inl (some (.int x1))) G) ∧
  (¬ (x1 = 0) →
    zob G q0 13 ∧
    ∀ G1, G1 = zsi G q0 0 x2 →
    narrow .boolean (.int x1) = .int x1 ∧ Q (.inl (some (.int x1))) G1))
theorem wpt_X12_throwsIf_0 {E : ZE} {l : Launch} {d b : Nat} {G0 : ZG} {Q : ZQ} {k : Nat} {q0 : Nat} {x1 : Int32} {x2 : Int32} {G : ZG} (h : wp_X12_throwsIf_0 E l d b G0 Q k q0 x1 x2 G) : zW E l mX12_throwsIf d b G0 Q k 0 [some (.ref q0), some (.int x1), some (.int x2)] [] G := by
  unfold wp_X12_throwsIf_0 at h
  refine z_iload_n (pc' := 1) dX12_throwsIf_0 rfl rfl ?_
  refine z_if_eq (pt := 9) (pc' := 4) dX12_throwsIf_1 (by decide) rfl (fun hc => ?_) (fun hc => ?_)
  · have h := h.1 hc
    refine z_iload_n (pc' := 10) dX12_throwsIf_9 rfl rfl ?_
    exact z_zret (ty := .boolean) dX12_throwsIf_10 rfl h.1 h.2
  · have h := h.2 hc
    refine z_aload_n (pc' := 5) dX12_throwsIf_4 rfl rfl ?_
    refine z_iload_n (pc' := 6) dX12_throwsIf_5 rfl rfl ?_
    obtain ⟨h1, h⟩ := h
    obtain ⟨G1, hG⟩ : ∃ z, z = zsi G q0 0 x2 := ⟨_, rfl⟩
    have h := h _ hG
    refine z_putI (ci := 13) (kf := 0) (pc' := 9) dX12_throwsIf_6 kX12_178 (Or.inl rfl) (by decide) (by decide) rfl (Or.inl rfl) rfl h1 (zok_int _) ?_
    refine z_st hG ?_
    refine z_iload_n (pc' := 10) dX12_throwsIf_9 rfl rfl ?_
    exact z_zret (ty := .boolean) dX12_throwsIf_10 rfl h.1 h.2
