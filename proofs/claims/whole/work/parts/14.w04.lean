/-! what the methods come to -/
def wp_X12_missed_0 (E : ZE) (l : Launch) (d b : Nat) (G0 : ZG) (Q : ZQ) (k : Nat) (q0 : Nat) (x1 : Int32) (x2 : Int32) (G : ZG) : Prop :=
  zob G q0 13 ∧
  ∀ G1, G1 = zsi G q0 0 0 →
  xcI E l mX12_in d [.int x1, .int 0, .int 2] G1 k (fun X G9 => Q (.inr X) G9) (fun y2 G3 k4 =>
  ((y2 = 0 →
    zob G3 q0 13 ∧
    xcI E l mX12_throwsIf d [.ref q0, .int 1, .int 1] G3 k4 (fun X G9 => Q (.inr X) G9) (fun y5 G6 k7 =>
    ((y5 = 0 →
      zW E l mX12_missed d b G0 Q k7 41 [some (.ref q0), some (.int x1), some (.int x2), some (.int 0), none, none, none, none, none, none, none, none] [] G6) ∧
    (¬ (y5 = 0) →
      Q (.inl (some (.int 0))) G6)))) ∧
  (¬ (y2 = 0) →
    xcI E l mX12_in d [.int x2, .int 0, .int 60] G3 k4 (fun X G9 => Q (.inr X) G9) (fun y8 G9 k10 =>
    ((¬ y8 = 0 →
      zob G9 q0 13 ∧
      xcI E l mX12_throwsIf d [.ref q0, .int 0, .int 1] G9 k10 (fun X G9 => Q (.inr X) G9) (fun y11 G12 k13 =>
      ((y11 = 0 →
        zW E l mX12_missed d b G0 Q k13 41 [some (.ref q0), some (.int x1), some (.int x2), some (.int 0), none, none, none, none, none, none, none, none] [] G12) ∧
      (¬ (y11 = 0) →
        Q (.inl (some (.int 0))) G12)))) ∧
    (¬ (¬ y8 = 0) →
      zob G9 q0 13 ∧
      xcI E l mX12_throwsIf d [.ref q0, .int 1, .int 1] G9 k10 (fun X G9 => Q (.inr X) G9) (fun y14 G15 k16 =>
      ((y14 = 0 →
        zW E l mX12_missed d b G0 Q k16 41 [some (.ref q0), some (.int x1), some (.int x2), some (.int 0), none, none, none, none, none, none, none, none] [] G15) ∧
      (¬ (y14 = 0) →
        Q (.inl (some (.int 0))) G15)))))))))
theorem wpt_X12_missed_0 {E : ZE} {l : Launch} {d b : Nat} {G0 : ZG} {Q : ZQ} {k : Nat} {q0 : Nat} {x1 : Int32} {x2 : Int32} {G : ZG} (h : wp_X12_missed_0 E l d b G0 Q k q0 x1 x2 G) : zW E l mX12_missed d b G0 Q k 0 [some (.ref q0), some (.int x1), some (.int x2), none, none, none, none, none, none, none, none, none] [] G := by
  unfold wp_X12_missed_0 at h
  refine z_aload_n (pc' := 1) dX12_missed_0 rfl rfl ?_
  refine z_iconst (x := 0) (pc' := 2) dX12_missed_1 (by decide) rfl ?_
  obtain ⟨h1, h⟩ := h
  obtain ⟨G1, hG⟩ : ∃ z, z = zsi G q0 0 0 := ⟨_, rfl⟩
  have h := h _ hG
  refine z_putI (ci := 13) (kf := 0) (pc' := 5) dX12_missed_2 kX12_178 (Or.inl rfl) (by decide) (by decide) rfl (Or.inl rfl) rfl h1 (zok_int _) ?_
  refine z_st hG ?_
  refine z_aload_n (pc' := 6) dX12_missed_5 rfl rfl ?_
  refine z_iload_n (pc' := 7) dX12_missed_6 rfl rfl ?_
  refine z_iconst (x := 0) (pc' := 8) dX12_missed_7 (by decide) rfl ?_
  refine z_iconst (x := 2) (pc' := 9) dX12_missed_8 (by decide) rfl ?_
  obtain ⟨d1, b1, Qz, hm, hdd, hb, hkx, hk⟩ := h
  refine z_callS (Y := mX12_in) (n := 3) (as := [.int x1, .int 0, .int 2]) (st := [.ref q0]) (pc' := 12) hm dX12_missed_9 kX12_317 sX12_in rfl rfl hdd hb (Nat.le_of_ble_eq_true rfl) (fun r G3 hz => ?_) hkx
  obtain ⟨y2, rfl, h⟩ := hk r G3 hz
  refine z_if_eq (pt := 25) (pc' := 15) dX12_missed_12 (by decide) rfl (fun hc => ?_) (fun hc => ?_)
  · have h := h.1 hc
    refine z_iconst (x := 1) (pc' := 26) dX12_missed_25 (by decide) rfl ?_
    refine z_goto (pc' := 30) dX12_missed_26 (by decide) ?_
    refine z_iconst (x := 1) (pc' := 31) dX12_missed_30 (by decide) rfl ?_
    obtain ⟨h1, h⟩ := h
    obtain ⟨d1, b1, Qz, hm, hdd, hb, hkx, hk⟩ := h
    refine z_callV (Y := mX12_throwsIf) (n := 2) (as := [.int 1, .int 1]) (st := []) (pc' := 34) (ci := 13) (q := q0) hm dX12_missed_31 kX12_321 vX12_throwsIf rfl rfl (by decide) rfl h1 hdd hb (Nat.le_of_ble_eq_true rfl) (fun r G6 hz => ?_) hkx
    obtain ⟨y5, rfl, h⟩ := hk r G6 hz
    refine z_if_eq (pt := 39) (pc' := 37) dX12_missed_34 (by decide) rfl (fun hc => ?_) (fun hc => ?_)
    · have h := h.1 hc
      refine z_iconst (x := 0) (pc' := 40) dX12_missed_39 (by decide) rfl ?_
      refine z_istore_n (pc' := 41) dX12_missed_40 (by decide) rfl ?_
      exact z_dr (ls' := [some (.ref q0), some (.int x1), some (.int x2), some (.int 0), none, none, none, none, none, none, none, none]) ⟨rfl, rfl, rfl, rfl, trivial⟩ h
    · have h := h.2 hc
      refine z_iconst (x := 0) (pc' := 38) dX12_missed_37 (by decide) rfl ?_
      exact z_iret dX12_missed_38 rfl h
  · have h := h.2 hc
    refine z_iload_n (pc' := 16) dX12_missed_15 rfl rfl ?_
    refine z_iconst (x := 0) (pc' := 17) dX12_missed_16 (by decide) rfl ?_
    refine z_bipush (x := 60) (pc' := 19) dX12_missed_17 (by decide) rfl ?_
    obtain ⟨d1, b1, Qz, hm, hdd, hb, hkx, hk⟩ := h
    refine z_callS (Y := mX12_in) (n := 3) (as := [.int x2, .int 0, .int 60]) (st := [.ref q0]) (pc' := 22) hm dX12_missed_19 kX12_317 sX12_in rfl rfl hdd hb (Nat.le_of_ble_eq_true rfl) (fun r G9 hz => ?_) hkx
    obtain ⟨y8, rfl, h⟩ := hk r G9 hz
    refine z_if_ne (pt := 29) (pc' := 25) dX12_missed_22 (by decide) rfl (fun hc => ?_) (fun hc => ?_)
    · have h := h.1 hc
      refine z_iconst (x := 0) (pc' := 30) dX12_missed_29 (by decide) rfl ?_
      refine z_iconst (x := 1) (pc' := 31) dX12_missed_30 (by decide) rfl ?_
      obtain ⟨h1, h⟩ := h
      obtain ⟨d1, b1, Qz, hm, hdd, hb, hkx, hk⟩ := h
      refine z_callV (Y := mX12_throwsIf) (n := 2) (as := [.int 0, .int 1]) (st := []) (pc' := 34) (ci := 13) (q := q0) hm dX12_missed_31 kX12_321 vX12_throwsIf rfl rfl (by decide) rfl h1 hdd hb (Nat.le_of_ble_eq_true rfl) (fun r G12 hz => ?_) hkx
      obtain ⟨y11, rfl, h⟩ := hk r G12 hz
      refine z_if_eq (pt := 39) (pc' := 37) dX12_missed_34 (by decide) rfl (fun hc => ?_) (fun hc => ?_)
      · have h := h.1 hc
        refine z_iconst (x := 0) (pc' := 40) dX12_missed_39 (by decide) rfl ?_
        refine z_istore_n (pc' := 41) dX12_missed_40 (by decide) rfl ?_
        exact z_dr (ls' := [some (.ref q0), some (.int x1), some (.int x2), some (.int 0), none, none, none, none, none, none, none, none]) ⟨rfl, rfl, rfl, rfl, trivial⟩ h
      · have h := h.2 hc
        refine z_iconst (x := 0) (pc' := 38) dX12_missed_37 (by decide) rfl ?_
        exact z_iret dX12_missed_38 rfl h
    · have h := h.2 hc
      refine z_iconst (x := 1) (pc' := 26) dX12_missed_25 (by decide) rfl ?_
      refine z_goto (pc' := 30) dX12_missed_26 (by decide) ?_
      refine z_iconst (x := 1) (pc' := 31) dX12_missed_30 (by decide) rfl ?_
      obtain ⟨h1, h⟩ := h
      obtain ⟨d1, b1, Qz, hm, hdd, hb, hkx, hk⟩ := h
      refine z_callV (Y := mX12_throwsIf) (n := 2) (as := [.int 1, .int 1]) (st := []) (pc' := 34) (ci := 13) (q := q0) hm dX12_missed_31 kX12_321 vX12_throwsIf rfl rfl (by decide) rfl h1 hdd hb (Nat.le_of_ble_eq_true rfl) (fun r G15 hz => ?_) hkx
      obtain ⟨y14, rfl, h⟩ := hk r G15 hz
      refine z_if_eq (pt := 39) (pc' := 37) dX12_missed_34 (by decide) rfl (fun hc => ?_) (fun hc => ?_)
      · have h := h.1 hc
        refine z_iconst (x := 0) (pc' := 40) dX12_missed_39 (by decide) rfl ?_
        refine z_istore_n (pc' := 41) dX12_missed_40 (by decide) rfl ?_
        exact z_dr (ls' := [some (.ref q0), some (.int x1), some (.int x2), some (.int 0), none, none, none, none, none, none, none, none]) ⟨rfl, rfl, rfl, rfl, trivial⟩ h
      · have h := h.2 hc
        refine z_iconst (x := 0) (pc' := 38) dX12_missed_37 (by decide) rfl ?_
        exact z_iret dX12_missed_38 rfl h
def wp_X12_missed_41 (E : ZE) (l : Launch) (d b : Nat) (G0 : ZG) (Q : ZQ) (k : Nat) (q0 : Nat) (x1 : Int32) (x2 : Int32) (x3 : Int32) (G : ZG) : Prop :=
  zob G q0 13 ∧
  (((7 * (ziv G q0 66)) ≤ x3 →
    zW E l mX12_missed d b G0 Q k 72 [some (.ref q0), some (.int x1), some (.int x2), some (.int 0), none, none, none, none, none, none, none, none] [] G) ∧
  (¬ ((7 * (ziv G q0 66)) ≤ x3) →
    zob G q0 13 ∧
    zob G q0 13 ∧
    (zar G (zrv G q0 65) 0 ∨ zrd G (zrv G q0 65) .int) ∧ vp_in x3 (zln G (zrv G q0 65)) ∧
    zar G (zrv G q0 79) 0 ∧ vp_in x3 (zln G (zrv G q0 79)) ∧
    ∀ G1, G1 = zsi G (zrv G q0 79) x3.toNatClampNeg (ziv G (zrv G q0 65) x3.toNatClampNeg) →
    zW E l mX12_missed d b G0 Q k 41 [some (.ref q0), some (.int x1), some (.int x2), some (.int (x3 + 1)), none, none, none, none, none, none, none, none] [] G1))
theorem wpt_X12_missed_41 {E : ZE} {l : Launch} {d b : Nat} {G0 : ZG} {Q : ZQ} {k : Nat} {q0 : Nat} {x1 : Int32} {x2 : Int32} {x3 : Int32} {G : ZG} (h : wp_X12_missed_41 E l d b G0 Q k q0 x1 x2 x3 G) : zW E l mX12_missed d b G0 Q k 41 [some (.ref q0), some (.int x1), some (.int x2), some (.int x3), none, none, none, none, none, none, none, none] [] G := by
  unfold wp_X12_missed_41 at h
  refine z_iload_n (pc' := 42) dX12_missed_41 rfl rfl ?_
  refine z_bipush (x := 7) (pc' := 44) dX12_missed_42 (by decide) rfl ?_
  refine z_aload_n (pc' := 45) dX12_missed_44 rfl rfl ?_
  obtain ⟨h1, h⟩ := h
  refine z_getI (ci := 13) (kf := 66) (pc' := 48) dX12_missed_45 kX12_412 (Or.inl rfl) (by decide) (by decide) rfl rfl h1 ?_
  refine z_imul (pc' := 49) dX12_missed_48 rfl rfl ?_
  refine z_icmp_ge (pt := 70) (pc' := 52) dX12_missed_49 (by decide) rfl (fun hc => ?_) (fun hc => ?_)
  · have h := h.1 hc
    refine z_iconst (x := 0) (pc' := 71) dX12_missed_70 (by decide) rfl ?_
    refine z_istore_n (pc' := 72) dX12_missed_71 (by decide) rfl ?_
    exact z_dr (ls' := [some (.ref q0), some (.int x1), some (.int x2), some (.int 0), none, none, none, none, none, none, none, none]) ⟨rfl, rfl, rfl, rfl, trivial⟩ h
  · have h := h.2 hc
    refine z_aload_n (pc' := 53) dX12_missed_52 rfl rfl ?_
    obtain ⟨h1, h⟩ := h
    refine z_getR (ci := 13) (kf := 79) (pc' := 56) dX12_missed_53 kX12_166 (Or.inl rfl) (by decide) (by decide) rfl rfl h1 ?_
    refine z_iload_n (pc' := 57) dX12_missed_56 rfl rfl ?_
    refine z_aload_n (pc' := 58) dX12_missed_57 rfl rfl ?_
    obtain ⟨h1, h⟩ := h
    refine z_getR (ci := 13) (kf := 65) (pc' := 61) dX12_missed_58 kX12_148 (Or.inl rfl) (by decide) (by decide) rfl rfl h1 ?_
    refine z_iload_n (pc' := 62) dX12_missed_61 rfl rfl ?_
    obtain ⟨h1, h2, h⟩ := h
    refine z_iald (pc' := 63) dX12_missed_62 rfl h1 h2 ?_
    obtain ⟨h1, h2, h⟩ := h
    obtain ⟨G1, hG⟩ : ∃ z, z = zsi G (zrv G q0 79) x3.toNatClampNeg (ziv G (zrv G q0 65) x3.toNatClampNeg) := ⟨_, rfl⟩
    have h := h _ hG
    refine z_iast (pc' := 64) dX12_missed_63 rfl h1 h2  ?_
    refine z_st hG ?_
    refine z_iinc (y := x3 + 1) (pc' := 67) dX12_missed_64 rfl (zinc_1 _) (by decide) rfl ?_
    refine z_goto (pc' := 41) dX12_missed_67 (by decide) ?_
    exact z_dr (ls' := [some (.ref q0), some (.int x1), some (.int x2), some (.int (x3 + 1)), none, none, none, none, none, none, none, none]) ⟨rfl, rfl, rfl, rfl, trivial⟩ h
def wp_X12_missed_72 (E : ZE) (l : Launch) (d b : Nat) (G0 : ZG) (Q : ZQ) (k : Nat) (q0 : Nat) (x1 : Int32) (x2 : Int32) (x3 : Int32) (G : ZG) : Prop :=
  zob G q0 13 ∧
  (((ziv G q0 71) ≤ x3 →
    zob G q0 13 ∧
    zob G q0 13 ∧
    zob G q0 13 ∧
    zob G q0 13 ∧
    zob G q0 13 ∧
    zob G q0 13 ∧
    zob G q0 13 ∧
    zW E l mX12_missed d b G0 Q k 142 [some (.ref q0), some (.int x1), some (.int x2), some (.int (ziv G q0 1)), some (.int (ziv G q0 71)), some (.int (ziv G q0 43)), some (.int (ziv G q0 73)), some (.int (ziv G q0 74)), some (.int (ziv G q0 75)), some (.int (ziv G q0 76)), some (.int 0), none] [] G) ∧
  (¬ ((ziv G q0 71) ≤ x3) →
    zob G q0 13 ∧
    zob G q0 13 ∧
    (zar G (zrv G q0 69) 0 ∨ zrd G (zrv G q0 69) .int) ∧ vp_in x3 (zln G (zrv G q0 69)) ∧
    zar G (zrv G q0 80) 0 ∧ vp_in x3 (zln G (zrv G q0 80)) ∧
    ∀ G1, G1 = zsi G (zrv G q0 80) x3.toNatClampNeg (ziv G (zrv G q0 69) x3.toNatClampNeg) →
    zW E l mX12_missed d b G0 Q k 72 [some (.ref q0), some (.int x1), some (.int x2), some (.int (x3 + 1)), none, none, none, none, none, none, none, none] [] G1))
theorem wpt_X12_missed_72 {E : ZE} {l : Launch} {d b : Nat} {G0 : ZG} {Q : ZQ} {k : Nat} {q0 : Nat} {x1 : Int32} {x2 : Int32} {x3 : Int32} {G : ZG} (h : wp_X12_missed_72 E l d b G0 Q k q0 x1 x2 x3 G) : zW E l mX12_missed d b G0 Q k 72 [some (.ref q0), some (.int x1), some (.int x2), some (.int x3), none, none, none, none, none, none, none, none] [] G := by
  unfold wp_X12_missed_72 at h
  refine z_iload_n (pc' := 73) dX12_missed_72 rfl rfl ?_
  refine z_aload_n (pc' := 74) dX12_missed_73 rfl rfl ?_
  obtain ⟨h1, h⟩ := h
  refine z_getI (ci := 13) (kf := 71) (pc' := 77) dX12_missed_74 kX12_415 (Or.inl rfl) (by decide) (by decide) rfl rfl h1 ?_
  refine z_icmp_ge (pt := 98) (pc' := 80) dX12_missed_77 (by decide) rfl (fun hc => ?_) (fun hc => ?_)
  · have h := h.1 hc
    refine z_aload_n (pc' := 99) dX12_missed_98 rfl rfl ?_
    obtain ⟨h1, h⟩ := h
    refine z_getI (ci := 13) (kf := 1) (pc' := 102) dX12_missed_99 kX12_314 (Or.inl rfl) (by decide) (by decide) rfl rfl h1 ?_
    refine z_istore_n (pc' := 103) dX12_missed_102 (by decide) rfl ?_
    refine z_aload_n (pc' := 104) dX12_missed_103 rfl rfl ?_
    obtain ⟨h1, h⟩ := h
    refine z_getI (ci := 13) (kf := 71) (pc' := 107) dX12_missed_104 kX12_415 (Or.inl rfl) (by decide) (by decide) rfl rfl h1 ?_
    refine z_istore (pc' := 109) dX12_missed_107 (by decide) rfl ?_
    refine z_aload_n (pc' := 110) dX12_missed_109 rfl rfl ?_
    obtain ⟨h1, h⟩ := h
    refine z_getI (ci := 13) (kf := 43) (pc' := 113) dX12_missed_110 kX12_406 (Or.inl rfl) (by decide) (by decide) rfl rfl h1 ?_
    refine z_istore (pc' := 115) dX12_missed_113 (by decide) rfl ?_
    refine z_aload_n (pc' := 116) dX12_missed_115 rfl rfl ?_
    obtain ⟨h1, h⟩ := h
    refine z_getI (ci := 13) (kf := 73) (pc' := 119) dX12_missed_116 kX12_456 (Or.inl rfl) (by decide) (by decide) rfl rfl h1 ?_
    refine z_istore (pc' := 121) dX12_missed_119 (by decide) rfl ?_
    refine z_aload_n (pc' := 122) dX12_missed_121 rfl rfl ?_
    obtain ⟨h1, h⟩ := h
    refine z_getI (ci := 13) (kf := 74) (pc' := 125) dX12_missed_122 kX12_465 (Or.inl rfl) (by decide) (by decide) rfl rfl h1 ?_
    refine z_istore (pc' := 127) dX12_missed_125 (by decide) rfl ?_
    refine z_aload_n (pc' := 128) dX12_missed_127 rfl rfl ?_
    obtain ⟨h1, h⟩ := h
    refine z_getI (ci := 13) (kf := 75) (pc' := 131) dX12_missed_128 kX12_484 (Or.inl rfl) (by decide) (by decide) rfl rfl h1 ?_
    refine z_istore (pc' := 133) dX12_missed_131 (by decide) rfl ?_
    refine z_aload_n (pc' := 134) dX12_missed_133 rfl rfl ?_
    obtain ⟨h1, h⟩ := h
    refine z_getI (ci := 13) (kf := 76) (pc' := 137) dX12_missed_134 kX12_481 (Or.inl rfl) (by decide) (by decide) rfl rfl h1 ?_
    refine z_istore (pc' := 139) dX12_missed_137 (by decide) rfl ?_
    refine z_iconst (x := 0) (pc' := 140) dX12_missed_139 (by decide) rfl ?_
    refine z_istore (pc' := 142) dX12_missed_140 (by decide) rfl ?_
    exact z_dr (ls' := [some (.ref q0), some (.int x1), some (.int x2), some (.int (ziv G q0 1)), some (.int (ziv G q0 71)), some (.int (ziv G q0 43)), some (.int (ziv G q0 73)), some (.int (ziv G q0 74)), some (.int (ziv G q0 75)), some (.int (ziv G q0 76)), some (.int 0), none]) ⟨rfl, rfl, rfl, rfl, rfl, rfl, rfl, rfl, rfl, rfl, rfl, trivial⟩ h
  · have h := h.2 hc
    refine z_aload_n (pc' := 81) dX12_missed_80 rfl rfl ?_
    obtain ⟨h1, h⟩ := h
    refine z_getR (ci := 13) (kf := 80) (pc' := 84) dX12_missed_81 kX12_169 (Or.inl rfl) (by decide) (by decide) rfl rfl h1 ?_
    refine z_iload_n (pc' := 85) dX12_missed_84 rfl rfl ?_
    refine z_aload_n (pc' := 86) dX12_missed_85 rfl rfl ?_
    obtain ⟨h1, h⟩ := h
    refine z_getR (ci := 13) (kf := 69) (pc' := 89) dX12_missed_86 kX12_157 (Or.inl rfl) (by decide) (by decide) rfl rfl h1 ?_
    refine z_iload_n (pc' := 90) dX12_missed_89 rfl rfl ?_
    obtain ⟨h1, h2, h⟩ := h
    refine z_iald (pc' := 91) dX12_missed_90 rfl h1 h2 ?_
    obtain ⟨h1, h2, h⟩ := h
    obtain ⟨G1, hG⟩ : ∃ z, z = zsi G (zrv G q0 80) x3.toNatClampNeg (ziv G (zrv G q0 69) x3.toNatClampNeg) := ⟨_, rfl⟩
    have h := h _ hG
    refine z_iast (pc' := 92) dX12_missed_91 rfl h1 h2  ?_
    refine z_st hG ?_
    refine z_iinc (y := x3 + 1) (pc' := 95) dX12_missed_92 rfl (zinc_1 _) (by decide) rfl ?_
    refine z_goto (pc' := 72) dX12_missed_95 (by decide) ?_
    exact z_dr (ls' := [some (.ref q0), some (.int x1), some (.int x2), some (.int (x3 + 1)), none, none, none, none, none, none, none, none]) ⟨rfl, rfl, rfl, rfl, trivial⟩ h
def wp_X12_missed_142 (E : ZE) (l : Launch) (d b : Nat) (G0 : ZG) (Q : ZQ) (k : Nat) (q0 : Nat) (x1 : Int32) (x2 : Int32) (x3 : Int32) (x4 : Int32) (x5 : Int32) (x6 : Int32) (x7 : Int32) (x8 : Int32) (x9 : Int32) (x10 : Int32) (G : ZG) : Prop :=
  ((x2 ≤ x10 →
    zW E l mX12_missed d b G0 Q k 165 [some (.ref q0), none, none, some (.int x3), some (.int x4), some (.int x5), some (.int x6), some (.int x7), some (.int x8), some (.int x9), some (.int 0), some (.int 0)] [] G) ∧
  (¬ (x2 ≤ x10) →
    zob G q0 13 ∧
    xcV E l mX12_day d [.ref q0, .int x1] G k (fun X G9 => Q (.inr X) G9) (fun G1 k2 =>
    zW E l mX12_missed d b G0 Q k2 142 [some (.ref q0), some (.int x1), some (.int x2), some (.int x3), some (.int x4), some (.int x5), some (.int x6), some (.int x7), some (.int x8), some (.int x9), some (.int (x10 + 1)), none] [] G1)))
theorem wpt_X12_missed_142 {E : ZE} {l : Launch} {d b : Nat} {G0 : ZG} {Q : ZQ} {k : Nat} {q0 : Nat} {x1 : Int32} {x2 : Int32} {x3 : Int32} {x4 : Int32} {x5 : Int32} {x6 : Int32} {x7 : Int32} {x8 : Int32} {x9 : Int32} {x10 : Int32} {G : ZG} (h : wp_X12_missed_142 E l d b G0 Q k q0 x1 x2 x3 x4 x5 x6 x7 x8 x9 x10 G) : zW E l mX12_missed d b G0 Q k 142 [some (.ref q0), some (.int x1), some (.int x2), some (.int x3), some (.int x4), some (.int x5), some (.int x6), some (.int x7), some (.int x8), some (.int x9), some (.int x10), none] [] G := by
  unfold wp_X12_missed_142 at h
  refine z_iload (pc' := 144) dX12_missed_142 rfl rfl ?_
  refine z_iload_n (pc' := 145) dX12_missed_144 rfl rfl ?_
  refine z_icmp_ge (pt := 159) (pc' := 148) dX12_missed_145 (by decide) rfl (fun hc => ?_) (fun hc => ?_)
  · have h := h.1 hc
    refine z_iconst (x := 0) (pc' := 160) dX12_missed_159 (by decide) rfl ?_
    refine z_istore (pc' := 162) dX12_missed_160 (by decide) rfl ?_
    refine z_iconst (x := 0) (pc' := 163) dX12_missed_162 (by decide) rfl ?_
    refine z_istore (pc' := 165) dX12_missed_163 (by decide) rfl ?_
    exact z_dr (ls' := [some (.ref q0), none, none, some (.int x3), some (.int x4), some (.int x5), some (.int x6), some (.int x7), some (.int x8), some (.int x9), some (.int 0), some (.int 0)]) ⟨rfl, rfl, rfl, rfl, rfl, rfl, rfl, rfl, rfl, rfl, trivial⟩ h
  · have h := h.2 hc
    refine z_aload_n (pc' := 149) dX12_missed_148 rfl rfl ?_
    refine z_iload_n (pc' := 150) dX12_missed_149 rfl rfl ?_
    obtain ⟨h1, h⟩ := h
    obtain ⟨d1, b1, Qz, hm, hdd, hb, hkx, hk⟩ := h
    refine z_callV (Y := mX12_day) (n := 1) (as := [.int x1]) (st := []) (pc' := 153) (ci := 13) (q := q0) hm dX12_missed_150 kX12_490 vX12_day rfl rfl (by decide) rfl h1 hdd hb (Nat.le_of_ble_eq_true rfl) (fun r G1 hz => ?_) hkx
    obtain ⟨rfl, h⟩ := hk r G1 hz
    refine z_iinc (y := x10 + 1) (pc' := 156) dX12_missed_153 rfl (zinc_1 _) (by decide) rfl ?_
    refine z_goto (pc' := 142) dX12_missed_156 (by decide) ?_
    exact z_dr (ls' := [some (.ref q0), some (.int x1), some (.int x2), some (.int x3), some (.int x4), some (.int x5), some (.int x6), some (.int x7), some (.int x8), some (.int x9), some (.int (x10 + 1)), none]) ⟨rfl, rfl, rfl, rfl, rfl, rfl, rfl, rfl, rfl, rfl, rfl, trivial⟩ h
def wp_X12_missed_165 (E : ZE) (l : Launch) (d b : Nat) (G0 : ZG) (Q : ZQ) (k : Nat) (q0 : Nat) (x3 : Int32) (x4 : Int32) (x5 : Int32) (x6 : Int32) (x7 : Int32) (x8 : Int32) (x9 : Int32) (x10 : Int32) (x11 : Int32) (G : ZG) : Prop :=
  zob G q0 13 ∧
  (((ziv G q0 66) ≤ x11 →
    zW E l mX12_missed d b G0 Q k 254 [some (.ref q0), none, none, some (.int x3), some (.int x4), some (.int x5), some (.int x6), some (.int x7), some (.int x8), some (.int x9), some (.int x10), some (.int 0)] [] G) ∧
  (¬ ((ziv G q0 66) ≤ x11) →
    zob G q0 13 ∧
    (zar G (zrv G q0 79) 0 ∨ zrd G (zrv G q0 79) .int) ∧ vp_in ((7 * x11) + 0) (zln G (zrv G q0 79)) ∧
    ((6 < (ziv G (zrv G q0 79) ((7 * x11) + 0).toNatClampNeg) →
      zW E l mX12_missed d b G0 Q k 165 [some (.ref q0), none, none, some (.int x3), some (.int x4), some (.int x5), some (.int x6), some (.int x7), some (.int x8), some (.int x9), some (.int x10), some (.int (x11 + 1))] [] G) ∧
    (¬ (6 < (ziv G (zrv G q0 79) ((7 * x11) + 0).toNatClampNeg)) →
      zob G q0 13 ∧
      (zar G (zrv G q0 56) 0 ∨ zrd G (zrv G q0 56) .int) ∧ vp_in x11 (zln G (zrv G q0 56)) ∧
      zob G q0 13 ∧
      (((ziv G (zrv G q0 56) x11.toNatClampNeg) ≤ (ziv G q0 1) →
        zob G q0 13 ∧
        xcI E l mX12_now d [.ref q0, .int x11, .int 3] G k (fun X G9 => Q (.inr X) G9) (fun y1 G2 k3 =>
        ((y1 < 0 →
          zW E l mX12_missed d b G0 Q k3 165 [some (.ref q0), none, none, some (.int x3), some (.int x4), some (.int x5), some (.int x6), some (.int x7), some (.int x8), some (.int x9), some (.int (x10 + 1)), some (.int (x11 + 1))] [] G2) ∧
        (¬ (y1 < 0) →
          zob G2 q0 13 ∧
          xcI E l mX12_now d [.ref q0, .int x11, .int 3] G2 k3 (fun X G9 => Q (.inr X) G9) (fun y4 G5 k6 =>
          zob G5 q0 13 ∧
          (zar G5 (zrv G5 q0 56) 0 ∨ zrd G5 (zrv G5 q0 56) .int) ∧ vp_in x11 (zln G5 (zrv G5 q0 56)) ∧
          (((ziv G5 (zrv G5 q0 56) x11.toNatClampNeg) < y4 →
            zW E l mX12_missed d b G0 Q k6 165 [some (.ref q0), none, none, some (.int x3), some (.int x4), some (.int x5), some (.int x6), some (.int x7), some (.int x8), some (.int x9), some (.int (x10 + 1)), some (.int (x11 + 1))] [] G5) ∧
          (¬ ((ziv G5 (zrv G5 q0 56) x11.toNatClampNeg) < y4) →
            zW E l mX12_missed d b G0 Q k6 165 [some (.ref q0), none, none, some (.int x3), some (.int x4), some (.int x5), some (.int x6), some (.int x7), some (.int x8), some (.int x9), some (.int (x10 + 0)), some (.int (x11 + 1))] [] G5))))))) ∧
      (¬ ((ziv G (zrv G q0 56) x11.toNatClampNeg) ≤ (ziv G q0 1)) →
        zW E l mX12_missed d b G0 Q k 165 [some (.ref q0), none, none, some (.int x3), some (.int x4), some (.int x5), some (.int x6), some (.int x7), some (.int x8), some (.int x9), some (.int x10), some (.int (x11 + 1))] [] G))))))
theorem wpt_X12_missed_165 {E : ZE} {l : Launch} {d b : Nat} {G0 : ZG} {Q : ZQ} {k : Nat} {q0 : Nat} {x3 : Int32} {x4 : Int32} {x5 : Int32} {x6 : Int32} {x7 : Int32} {x8 : Int32} {x9 : Int32} {x10 : Int32} {x11 : Int32} {G : ZG} (h : wp_X12_missed_165 E l d b G0 Q k q0 x3 x4 x5 x6 x7 x8 x9 x10 x11 G) : zW E l mX12_missed d b G0 Q k 165 [some (.ref q0), none, none, some (.int x3), some (.int x4), some (.int x5), some (.int x6), some (.int x7), some (.int x8), some (.int x9), some (.int x10), some (.int x11)] [] G := by
  unfold wp_X12_missed_165 at h
  refine z_iload (pc' := 167) dX12_missed_165 rfl rfl ?_
  refine z_aload_n (pc' := 168) dX12_missed_167 rfl rfl ?_
  obtain ⟨h1, h⟩ := h
  refine z_getI (ci := 13) (kf := 66) (pc' := 171) dX12_missed_168 kX12_412 (Or.inl rfl) (by decide) (by decide) rfl rfl h1 ?_
  refine z_icmp_ge (pt := 251) (pc' := 174) dX12_missed_171 (by decide) rfl (fun hc => ?_) (fun hc => ?_)
  · have h := h.1 hc
    refine z_iconst (x := 0) (pc' := 252) dX12_missed_251 (by decide) rfl ?_
    refine z_istore (pc' := 254) dX12_missed_252 (by decide) rfl ?_
    exact z_dr (ls' := [some (.ref q0), none, none, some (.int x3), some (.int x4), some (.int x5), some (.int x6), some (.int x7), some (.int x8), some (.int x9), some (.int x10), some (.int 0)]) ⟨rfl, rfl, rfl, rfl, rfl, rfl, rfl, rfl, rfl, rfl, trivial⟩ h
  · have h := h.2 hc
    refine z_aload_n (pc' := 175) dX12_missed_174 rfl rfl ?_
    obtain ⟨h1, h⟩ := h
    refine z_getR (ci := 13) (kf := 79) (pc' := 178) dX12_missed_175 kX12_166 (Or.inl rfl) (by decide) (by decide) rfl rfl h1 ?_
    refine z_bipush (x := 7) (pc' := 180) dX12_missed_178 (by decide) rfl ?_
    refine z_iload (pc' := 182) dX12_missed_180 rfl rfl ?_
    refine z_imul (pc' := 183) dX12_missed_182 rfl rfl ?_
    refine z_iconst (x := 0) (pc' := 184) dX12_missed_183 (by decide) rfl ?_
    refine z_iadd (pc' := 185) dX12_missed_184 rfl rfl ?_
    obtain ⟨h1, h2, h⟩ := h
    refine z_iald (pc' := 186) dX12_missed_185 rfl h1 h2 ?_
    refine z_bipush (x := 6) (pc' := 188) dX12_missed_186 (by decide) rfl ?_
    refine z_icmp_gt (pt := 245) (pc' := 191) dX12_missed_188 (by decide) rfl (fun hc => ?_) (fun hc => ?_)
    · have h := h.1 hc
      refine z_iinc (y := x11 + 1) (pc' := 248) dX12_missed_245 rfl (zinc_1 _) (by decide) rfl ?_
      refine z_goto (pc' := 165) dX12_missed_248 (by decide) ?_
      exact z_dr (ls' := [some (.ref q0), none, none, some (.int x3), some (.int x4), some (.int x5), some (.int x6), some (.int x7), some (.int x8), some (.int x9), some (.int x10), some (.int (x11 + 1))]) ⟨rfl, rfl, rfl, rfl, rfl, rfl, rfl, rfl, rfl, rfl, trivial⟩ h
    · have h := h.2 hc
      refine z_aload_n (pc' := 192) dX12_missed_191 rfl rfl ?_
      obtain ⟨h1, h⟩ := h
      refine z_getR (ci := 13) (kf := 56) (pc' := 195) dX12_missed_192 kX12_121 (Or.inl rfl) (by decide) (by decide) rfl rfl h1 ?_
      refine z_iload (pc' := 197) dX12_missed_195 rfl rfl ?_
      obtain ⟨h1, h2, h⟩ := h
      refine z_iald (pc' := 198) dX12_missed_197 rfl h1 h2 ?_
      refine z_aload_n (pc' := 199) dX12_missed_198 rfl rfl ?_
      obtain ⟨h1, h⟩ := h
      refine z_getI (ci := 13) (kf := 1) (pc' := 202) dX12_missed_199 kX12_314 (Or.inl rfl) (by decide) (by decide) rfl rfl h1 ?_
      refine z_icmp_le (pt := 208) (pc' := 205) dX12_missed_202 (by decide) rfl (fun hc => ?_) (fun hc => ?_)
      · have h := h.1 hc
        refine z_iload (pc' := 210) dX12_missed_208 rfl rfl ?_
        refine z_aload_n (pc' := 211) dX12_missed_210 rfl rfl ?_
        refine z_iload (pc' := 213) dX12_missed_211 rfl rfl ?_
        refine z_iconst (x := 3) (pc' := 214) dX12_missed_213 (by decide) rfl ?_
        obtain ⟨h1, h⟩ := h
        obtain ⟨d1, b1, Qz, hm, hdd, hb, hkx, hk⟩ := h
        refine z_callV (Y := mX12_now) (n := 2) (as := [.int x11, .int 3]) (st := [.int x10]) (pc' := 217) (ci := 13) (q := q0) hm dX12_missed_214 kX12_434 vX12_now rfl rfl (by decide) rfl h1 hdd hb (Nat.le_of_ble_eq_true rfl) (fun r G2 hz => ?_) hkx
        obtain ⟨y1, rfl, h⟩ := hk r G2 hz
        refine z_if_lt (pt := 241) (pc' := 220) dX12_missed_217 (by decide) rfl (fun hc => ?_) (fun hc => ?_)
        · have h := h.1 hc
          refine z_iconst (x := 1) (pc' := 242) dX12_missed_241 (by decide) rfl ?_
          refine z_iadd (pc' := 243) dX12_missed_242 rfl rfl ?_
          refine z_istore (pc' := 245) dX12_missed_243 (by decide) rfl ?_
          refine z_iinc (y := x11 + 1) (pc' := 248) dX12_missed_245 rfl (zinc_1 _) (by decide) rfl ?_
          refine z_goto (pc' := 165) dX12_missed_248 (by decide) ?_
          exact z_dr (ls' := [some (.ref q0), none, none, some (.int x3), some (.int x4), some (.int x5), some (.int x6), some (.int x7), some (.int x8), some (.int x9), some (.int (x10 + 1)), some (.int (x11 + 1))]) ⟨rfl, rfl, rfl, rfl, rfl, rfl, rfl, rfl, rfl, rfl, trivial⟩ h
        · have h := h.2 hc
          refine z_aload_n (pc' := 221) dX12_missed_220 rfl rfl ?_
          refine z_iload (pc' := 223) dX12_missed_221 rfl rfl ?_
          refine z_iconst (x := 3) (pc' := 224) dX12_missed_223 (by decide) rfl ?_
          obtain ⟨h1, h⟩ := h
          obtain ⟨d1, b1, Qz, hm, hdd, hb, hkx, hk⟩ := h
          refine z_callV (Y := mX12_now) (n := 2) (as := [.int x11, .int 3]) (st := [.int x10]) (pc' := 227) (ci := 13) (q := q0) hm dX12_missed_224 kX12_434 vX12_now rfl rfl (by decide) rfl h1 hdd hb (Nat.le_of_ble_eq_true rfl) (fun r G5 hz => ?_) hkx
          obtain ⟨y4, rfl, h⟩ := hk r G5 hz
          refine z_aload_n (pc' := 228) dX12_missed_227 rfl rfl ?_
          obtain ⟨h1, h⟩ := h
          refine z_getR (ci := 13) (kf := 56) (pc' := 231) dX12_missed_228 kX12_121 (Or.inl rfl) (by decide) (by decide) rfl rfl h1 ?_
          refine z_iload (pc' := 233) dX12_missed_231 rfl rfl ?_
          obtain ⟨h1, h2, h⟩ := h
          refine z_iald (pc' := 234) dX12_missed_233 rfl h1 h2 ?_
          refine z_icmp_gt (pt := 241) (pc' := 237) dX12_missed_234 (by decide) rfl (fun hc => ?_) (fun hc => ?_)
          · have h := h.1 hc
            refine z_iconst (x := 1) (pc' := 242) dX12_missed_241 (by decide) rfl ?_
            refine z_iadd (pc' := 243) dX12_missed_242 rfl rfl ?_
            refine z_istore (pc' := 245) dX12_missed_243 (by decide) rfl ?_
            refine z_iinc (y := x11 + 1) (pc' := 248) dX12_missed_245 rfl (zinc_1 _) (by decide) rfl ?_
            refine z_goto (pc' := 165) dX12_missed_248 (by decide) ?_
            exact z_dr (ls' := [some (.ref q0), none, none, some (.int x3), some (.int x4), some (.int x5), some (.int x6), some (.int x7), some (.int x8), some (.int x9), some (.int (x10 + 1)), some (.int (x11 + 1))]) ⟨rfl, rfl, rfl, rfl, rfl, rfl, rfl, rfl, rfl, rfl, trivial⟩ h
          · have h := h.2 hc
            refine z_iconst (x := 0) (pc' := 238) dX12_missed_237 (by decide) rfl ?_
            refine z_goto (pc' := 242) dX12_missed_238 (by decide) ?_
            refine z_iadd (pc' := 243) dX12_missed_242 rfl rfl ?_
            refine z_istore (pc' := 245) dX12_missed_243 (by decide) rfl ?_
            refine z_iinc (y := x11 + 1) (pc' := 248) dX12_missed_245 rfl (zinc_1 _) (by decide) rfl ?_
            refine z_goto (pc' := 165) dX12_missed_248 (by decide) ?_
            exact z_dr (ls' := [some (.ref q0), none, none, some (.int x3), some (.int x4), some (.int x5), some (.int x6), some (.int x7), some (.int x8), some (.int x9), some (.int (x10 + 0)), some (.int (x11 + 1))]) ⟨rfl, rfl, rfl, rfl, rfl, rfl, rfl, rfl, rfl, rfl, trivial⟩ h
      · have h := h.2 hc
        refine z_goto (pc' := 245) dX12_missed_205 (by decide) ?_
        refine z_iinc (y := x11 + 1) (pc' := 248) dX12_missed_245 rfl (zinc_1 _) (by decide) rfl ?_
        refine z_goto (pc' := 165) dX12_missed_248 (by decide) ?_
        exact z_dr (ls' := [some (.ref q0), none, none, some (.int x3), some (.int x4), some (.int x5), some (.int x6), some (.int x7), some (.int x8), some (.int x9), some (.int x10), some (.int (x11 + 1))]) ⟨rfl, rfl, rfl, rfl, rfl, rfl, rfl, rfl, rfl, rfl, trivial⟩ h
def wp_X12_missed_254 (E : ZE) (l : Launch) (d b : Nat) (G0 : ZG) (Q : ZQ) (k : Nat) (q0 : Nat) (x3 : Int32) (x4 : Int32) (x5 : Int32) (x6 : Int32) (x7 : Int32) (x8 : Int32) (x9 : Int32) (x10 : Int32) (x11 : Int32) (G : ZG) : Prop :=
  zob G q0 13 ∧
  (((7 * (ziv G q0 66)) ≤ x11 →
    zW E l mX12_missed d b G0 Q k 289 [some (.ref q0), none, none, some (.int x3), some (.int x4), some (.int x5), some (.int x6), some (.int x7), some (.int x8), some (.int x9), some (.int x10), some (.int 0)] [] G) ∧
  (¬ ((7 * (ziv G q0 66)) ≤ x11) →
    zob G q0 13 ∧
    zob G q0 13 ∧
    (zar G (zrv G q0 79) 0 ∨ zrd G (zrv G q0 79) .int) ∧ vp_in x11 (zln G (zrv G q0 79)) ∧
    zar G (zrv G q0 65) 0 ∧ vp_in x11 (zln G (zrv G q0 65)) ∧
    ∀ G1, G1 = zsi G (zrv G q0 65) x11.toNatClampNeg (ziv G (zrv G q0 79) x11.toNatClampNeg) →
    zW E l mX12_missed d b G0 Q k 254 [some (.ref q0), none, none, some (.int x3), some (.int x4), some (.int x5), some (.int x6), some (.int x7), some (.int x8), some (.int x9), some (.int x10), some (.int (x11 + 1))] [] G1))
theorem wpt_X12_missed_254 {E : ZE} {l : Launch} {d b : Nat} {G0 : ZG} {Q : ZQ} {k : Nat} {q0 : Nat} {x3 : Int32} {x4 : Int32} {x5 : Int32} {x6 : Int32} {x7 : Int32} {x8 : Int32} {x9 : Int32} {x10 : Int32} {x11 : Int32} {G : ZG} (h : wp_X12_missed_254 E l d b G0 Q k q0 x3 x4 x5 x6 x7 x8 x9 x10 x11 G) : zW E l mX12_missed d b G0 Q k 254 [some (.ref q0), none, none, some (.int x3), some (.int x4), some (.int x5), some (.int x6), some (.int x7), some (.int x8), some (.int x9), some (.int x10), some (.int x11)] [] G := by
  unfold wp_X12_missed_254 at h
  refine z_iload (pc' := 256) dX12_missed_254 rfl rfl ?_
  refine z_bipush (x := 7) (pc' := 258) dX12_missed_256 (by decide) rfl ?_
  refine z_aload_n (pc' := 259) dX12_missed_258 rfl rfl ?_
  obtain ⟨h1, h⟩ := h
  refine z_getI (ci := 13) (kf := 66) (pc' := 262) dX12_missed_259 kX12_412 (Or.inl rfl) (by decide) (by decide) rfl rfl h1 ?_
  refine z_imul (pc' := 263) dX12_missed_262 rfl rfl ?_
  refine z_icmp_ge (pt := 286) (pc' := 266) dX12_missed_263 (by decide) rfl (fun hc => ?_) (fun hc => ?_)
  · have h := h.1 hc
    refine z_iconst (x := 0) (pc' := 287) dX12_missed_286 (by decide) rfl ?_
    refine z_istore (pc' := 289) dX12_missed_287 (by decide) rfl ?_
    exact z_dr (ls' := [some (.ref q0), none, none, some (.int x3), some (.int x4), some (.int x5), some (.int x6), some (.int x7), some (.int x8), some (.int x9), some (.int x10), some (.int 0)]) ⟨rfl, rfl, rfl, rfl, rfl, rfl, rfl, rfl, rfl, rfl, trivial⟩ h
  · have h := h.2 hc
    refine z_aload_n (pc' := 267) dX12_missed_266 rfl rfl ?_
    obtain ⟨h1, h⟩ := h
    refine z_getR (ci := 13) (kf := 65) (pc' := 270) dX12_missed_267 kX12_148 (Or.inl rfl) (by decide) (by decide) rfl rfl h1 ?_
    refine z_iload (pc' := 272) dX12_missed_270 rfl rfl ?_
    refine z_aload_n (pc' := 273) dX12_missed_272 rfl rfl ?_
    obtain ⟨h1, h⟩ := h
    refine z_getR (ci := 13) (kf := 79) (pc' := 276) dX12_missed_273 kX12_166 (Or.inl rfl) (by decide) (by decide) rfl rfl h1 ?_
    refine z_iload (pc' := 278) dX12_missed_276 rfl rfl ?_
    obtain ⟨h1, h2, h⟩ := h
    refine z_iald (pc' := 279) dX12_missed_278 rfl h1 h2 ?_
    obtain ⟨h1, h2, h⟩ := h
    obtain ⟨G1, hG⟩ : ∃ z, z = zsi G (zrv G q0 65) x11.toNatClampNeg (ziv G (zrv G q0 79) x11.toNatClampNeg) := ⟨_, rfl⟩
    have h := h _ hG
    refine z_iast (pc' := 280) dX12_missed_279 rfl h1 h2  ?_
    refine z_st hG ?_
    refine z_iinc (y := x11 + 1) (pc' := 283) dX12_missed_280 rfl (zinc_1 _) (by decide) rfl ?_
    refine z_goto (pc' := 254) dX12_missed_283 (by decide) ?_
    exact z_dr (ls' := [some (.ref q0), none, none, some (.int x3), some (.int x4), some (.int x5), some (.int x6), some (.int x7), some (.int x8), some (.int x9), some (.int x10), some (.int (x11 + 1))]) ⟨rfl, rfl, rfl, rfl, rfl, rfl, rfl, rfl, rfl, rfl, trivial⟩ h
def wp_X12_missed_289 (E : ZE) (l : Launch) (d b : Nat) (G0 : ZG) (Q : ZQ) (k : Nat) (q0 : Nat) (x3 : Int32) (x4 : Int32) (x5 : Int32) (x6 : Int32) (x7 : Int32) (x8 : Int32) (x9 : Int32) (x10 : Int32) (x11 : Int32) (G : ZG) : Prop :=
  ((x4 ≤ x11 →
    zob G q0 13 ∧
    ∀ G1, G1 = zsi G q0 1 x3 →
    zob G1 q0 13 ∧
    ∀ G2, G2 = zsi G1 q0 71 x4 →
    zob G2 q0 13 ∧
    ∀ G3, G3 = zsi G2 q0 43 x5 →
    zob G3 q0 13 ∧
    ∀ G4, G4 = zsi G3 q0 73 x6 →
    zob G4 q0 13 ∧
    ∀ G5, G5 = zsi G4 q0 74 x7 →
    zob G5 q0 13 ∧
    ∀ G6, G6 = zsi G5 q0 75 x8 →
    zob G6 q0 13 ∧
    ∀ G7, G7 = zsi G6 q0 76 x9 →
    Q (.inl (some (.int x10))) G7) ∧
  (¬ (x4 ≤ x11) →
    zob G q0 13 ∧
    zob G q0 13 ∧
    (zar G (zrv G q0 80) 0 ∨ zrd G (zrv G q0 80) .int) ∧ vp_in x11 (zln G (zrv G q0 80)) ∧
    zar G (zrv G q0 69) 0 ∧ vp_in x11 (zln G (zrv G q0 69)) ∧
    ∀ G8, G8 = zsi G (zrv G q0 69) x11.toNatClampNeg (ziv G (zrv G q0 80) x11.toNatClampNeg) →
    zW E l mX12_missed d b G0 Q k 289 [some (.ref q0), none, none, some (.int x3), some (.int x4), some (.int x5), some (.int x6), some (.int x7), some (.int x8), some (.int x9), some (.int x10), some (.int (x11 + 1))] [] G8))
theorem wpt_X12_missed_289 {E : ZE} {l : Launch} {d b : Nat} {G0 : ZG} {Q : ZQ} {k : Nat} {q0 : Nat} {x3 : Int32} {x4 : Int32} {x5 : Int32} {x6 : Int32} {x7 : Int32} {x8 : Int32} {x9 : Int32} {x10 : Int32} {x11 : Int32} {G : ZG} (h : wp_X12_missed_289 E l d b G0 Q k q0 x3 x4 x5 x6 x7 x8 x9 x10 x11 G) : zW E l mX12_missed d b G0 Q k 289 [some (.ref q0), none, none, some (.int x3), some (.int x4), some (.int x5), some (.int x6), some (.int x7), some (.int x8), some (.int x9), some (.int x10), some (.int x11)] [] G := by
  unfold wp_X12_missed_289 at h
  refine z_iload (pc' := 291) dX12_missed_289 rfl rfl ?_
  refine z_iload (pc' := 293) dX12_missed_291 rfl rfl ?_
  refine z_icmp_ge (pt := 316) (pc' := 296) dX12_missed_293 (by decide) rfl (fun hc => ?_) (fun hc => ?_)
  · have h := h.1 hc
    refine z_aload_n (pc' := 317) dX12_missed_316 rfl rfl ?_
    refine z_iload_n (pc' := 318) dX12_missed_317 rfl rfl ?_
    obtain ⟨h1, h⟩ := h
    obtain ⟨G1, hG⟩ : ∃ z, z = zsi G q0 1 x3 := ⟨_, rfl⟩
    have h := h _ hG
    refine z_putI (ci := 13) (kf := 1) (pc' := 321) dX12_missed_318 kX12_314 (Or.inl rfl) (by decide) (by decide) rfl (Or.inl rfl) rfl h1 (zok_int _) ?_
    refine z_st hG ?_
    refine z_aload_n (pc' := 322) dX12_missed_321 rfl rfl ?_
    refine z_iload (pc' := 324) dX12_missed_322 rfl rfl ?_
    obtain ⟨h1, h⟩ := h
    obtain ⟨G2, hG⟩ : ∃ z, z = zsi G1 q0 71 x4 := ⟨_, rfl⟩
    have h := h _ hG
    refine z_putI (ci := 13) (kf := 71) (pc' := 327) dX12_missed_324 kX12_415 (Or.inl rfl) (by decide) (by decide) rfl (Or.inl rfl) rfl h1 (zok_int _) ?_
    refine z_st hG ?_
    refine z_aload_n (pc' := 328) dX12_missed_327 rfl rfl ?_
    refine z_iload (pc' := 330) dX12_missed_328 rfl rfl ?_
    obtain ⟨h1, h⟩ := h
    obtain ⟨G3, hG⟩ : ∃ z, z = zsi G2 q0 43 x5 := ⟨_, rfl⟩
    have h := h _ hG
    refine z_putI (ci := 13) (kf := 43) (pc' := 333) dX12_missed_330 kX12_406 (Or.inl rfl) (by decide) (by decide) rfl (Or.inl rfl) rfl h1 (zok_int _) ?_
    refine z_st hG ?_
    refine z_aload_n (pc' := 334) dX12_missed_333 rfl rfl ?_
    refine z_iload (pc' := 336) dX12_missed_334 rfl rfl ?_
    obtain ⟨h1, h⟩ := h
    obtain ⟨G4, hG⟩ : ∃ z, z = zsi G3 q0 73 x6 := ⟨_, rfl⟩
    have h := h _ hG
    refine z_putI (ci := 13) (kf := 73) (pc' := 339) dX12_missed_336 kX12_456 (Or.inl rfl) (by decide) (by decide) rfl (Or.inl rfl) rfl h1 (zok_int _) ?_
    refine z_st hG ?_
    refine z_aload_n (pc' := 340) dX12_missed_339 rfl rfl ?_
    refine z_iload (pc' := 342) dX12_missed_340 rfl rfl ?_
    obtain ⟨h1, h⟩ := h
    obtain ⟨G5, hG⟩ : ∃ z, z = zsi G4 q0 74 x7 := ⟨_, rfl⟩
    have h := h _ hG
    refine z_putI (ci := 13) (kf := 74) (pc' := 345) dX12_missed_342 kX12_465 (Or.inl rfl) (by decide) (by decide) rfl (Or.inl rfl) rfl h1 (zok_int _) ?_
    refine z_st hG ?_
    refine z_aload_n (pc' := 346) dX12_missed_345 rfl rfl ?_
    refine z_iload (pc' := 348) dX12_missed_346 rfl rfl ?_
    obtain ⟨h1, h⟩ := h
    obtain ⟨G6, hG⟩ : ∃ z, z = zsi G5 q0 75 x8 := ⟨_, rfl⟩
    have h := h _ hG
    refine z_putI (ci := 13) (kf := 75) (pc' := 351) dX12_missed_348 kX12_484 (Or.inl rfl) (by decide) (by decide) rfl (Or.inl rfl) rfl h1 (zok_int _) ?_
    refine z_st hG ?_
    refine z_aload_n (pc' := 352) dX12_missed_351 rfl rfl ?_
    refine z_iload (pc' := 354) dX12_missed_352 rfl rfl ?_
    obtain ⟨h1, h⟩ := h
    obtain ⟨G7, hG⟩ : ∃ z, z = zsi G6 q0 76 x9 := ⟨_, rfl⟩
    have h := h _ hG
    refine z_putI (ci := 13) (kf := 76) (pc' := 357) dX12_missed_354 kX12_481 (Or.inl rfl) (by decide) (by decide) rfl (Or.inl rfl) rfl h1 (zok_int _) ?_
    refine z_st hG ?_
    refine z_iload (pc' := 359) dX12_missed_357 rfl rfl ?_
    exact z_iret dX12_missed_359 rfl h
  · have h := h.2 hc
    refine z_aload_n (pc' := 297) dX12_missed_296 rfl rfl ?_
    obtain ⟨h1, h⟩ := h
    refine z_getR (ci := 13) (kf := 69) (pc' := 300) dX12_missed_297 kX12_157 (Or.inl rfl) (by decide) (by decide) rfl rfl h1 ?_
    refine z_iload (pc' := 302) dX12_missed_300 rfl rfl ?_
    refine z_aload_n (pc' := 303) dX12_missed_302 rfl rfl ?_
    obtain ⟨h1, h⟩ := h
    refine z_getR (ci := 13) (kf := 80) (pc' := 306) dX12_missed_303 kX12_169 (Or.inl rfl) (by decide) (by decide) rfl rfl h1 ?_
    refine z_iload (pc' := 308) dX12_missed_306 rfl rfl ?_
    obtain ⟨h1, h2, h⟩ := h
    refine z_iald (pc' := 309) dX12_missed_308 rfl h1 h2 ?_
    obtain ⟨h1, h2, h⟩ := h
    obtain ⟨G8, hG⟩ : ∃ z, z = zsi G (zrv G q0 69) x11.toNatClampNeg (ziv G (zrv G q0 80) x11.toNatClampNeg) := ⟨_, rfl⟩
    have h := h _ hG
    refine z_iast (pc' := 310) dX12_missed_309 rfl h1 h2  ?_
    refine z_st hG ?_
    refine z_iinc (y := x11 + 1) (pc' := 313) dX12_missed_310 rfl (zinc_1 _) (by decide) rfl ?_
    refine z_goto (pc' := 289) dX12_missed_313 (by decide) ?_
    exact z_dr (ls' := [some (.ref q0), none, none, some (.int x3), some (.int x4), some (.int x5), some (.int x6), some (.int x7), some (.int x8), some (.int x9), some (.int x10), some (.int (x11 + 1))]) ⟨rfl, rfl, rfl, rfl, rfl, rfl, rfl, rfl, rfl, rfl, trivial⟩ h
def wp_X12_name_0 (E : ZE) (l : Launch) (d b : Nat) (G0 : ZG) (Q : ZQ) (k : Nat) (q0 : Nat) (x1 : Int32) (G : ZG) : Prop :=
  zob G q0 13 ∧
  xcV E l mX12_uses d [.ref q0] G k (fun X G9 => Q (.inr X) G9) (fun G1 k2 =>
  zob G1 q0 13 ∧
  xcI E l mX12_nobody d [.ref q0, .int x1] G1 k2 (fun X G9 => Q (.inr X) G9) (fun y3 G4 k5 =>
  zob G4 q0 13 ∧
  xcI E l mX12_throwsIf d [.ref q0, .int y3, .int 1] G4 k5 (fun X G9 => Q (.inr X) G9) (fun y6 G7 k8 =>
  ((y6 = 0 →
    zob G7 q0 13 ∧
    xcI E l mX12_readName d [.ref q0] G7 k8 (fun X G9 => Q (.inr X) G9) (fun y9 G10 k11 =>
    ((0 ≤ y9 →
      zW E l mX12_name d b G0 Q k11 37 [some (.ref q0), some (.int x1), some (.int y9), none] [.int (-1), .ref q0] G10) ∧
    (¬ (0 ≤ y9) →
      zob G10 q0 13 ∧
      zW E l mX12_name d b G0 Q k11 37 [some (.ref q0), some (.int x1), some (.int y9), none] [.int (ziv G10 q0 6), .ref q0] G10)))) ∧
  (¬ (y6 = 0) →
    Q (.inl (some (.int 0))) G7)))))
theorem wpt_X12_name_0 {E : ZE} {l : Launch} {d b : Nat} {G0 : ZG} {Q : ZQ} {k : Nat} {q0 : Nat} {x1 : Int32} {G : ZG} (h : wp_X12_name_0 E l d b G0 Q k q0 x1 G) : zW E l mX12_name d b G0 Q k 0 [some (.ref q0), some (.int x1), none, none] [] G := by
  unfold wp_X12_name_0 at h
  refine z_aload_n (pc' := 1) dX12_name_0 rfl rfl ?_
  obtain ⟨h1, h⟩ := h
  obtain ⟨d1, b1, Qz, hm, hdd, hb, hkx, hk⟩ := h
  refine z_callV (Y := mX12_uses) (n := 0) (as := []) (st := []) (pc' := 4) (ci := 13) (q := q0) hm dX12_name_1 kX12_311 vX12_uses rfl rfl (by decide) rfl h1 hdd hb (Nat.le_of_ble_eq_true rfl) (fun r G1 hz => ?_) hkx
  obtain ⟨rfl, h⟩ := hk r G1 hz
  refine z_aload_n (pc' := 5) dX12_name_4 rfl rfl ?_
  refine z_aload_n (pc' := 6) dX12_name_5 rfl rfl ?_
  refine z_iload_n (pc' := 7) dX12_name_6 rfl rfl ?_
  obtain ⟨h1, h⟩ := h
  obtain ⟨d1, b1, Qz, hm, hdd, hb, hkx, hk⟩ := h
  refine z_callV (Y := mX12_nobody) (n := 1) (as := [.int x1]) (st := [.ref q0]) (pc' := 10) (ci := 13) (q := q0) hm dX12_name_7 kX12_385 vX12_nobody rfl rfl (by decide) rfl h1 hdd hb (Nat.le_of_ble_eq_true rfl) (fun r G4 hz => ?_) hkx
  obtain ⟨y3, rfl, h⟩ := hk r G4 hz
  refine z_iconst (x := 1) (pc' := 11) dX12_name_10 (by decide) rfl ?_
  obtain ⟨h1, h⟩ := h
  obtain ⟨d1, b1, Qz, hm, hdd, hb, hkx, hk⟩ := h
  refine z_callV (Y := mX12_throwsIf) (n := 2) (as := [.int y3, .int 1]) (st := []) (pc' := 14) (ci := 13) (q := q0) hm dX12_name_11 kX12_321 vX12_throwsIf rfl rfl (by decide) rfl h1 hdd hb (Nat.le_of_ble_eq_true rfl) (fun r G7 hz => ?_) hkx
  obtain ⟨y6, rfl, h⟩ := hk r G7 hz
  refine z_if_eq (pt := 19) (pc' := 17) dX12_name_14 (by decide) rfl (fun hc => ?_) (fun hc => ?_)
  · have h := h.1 hc
    refine z_aload_n (pc' := 20) dX12_name_19 rfl rfl ?_
    obtain ⟨h1, h⟩ := h
    obtain ⟨d1, b1, Qz, hm, hdd, hb, hkx, hk⟩ := h
    refine z_callV (Y := mX12_readName) (n := 0) (as := []) (st := []) (pc' := 23) (ci := 13) (q := q0) hm dX12_name_20 kX12_388 vX12_readName rfl rfl (by decide) rfl h1 hdd hb (Nat.le_of_ble_eq_true rfl) (fun r G10 hz => ?_) hkx
    obtain ⟨y9, rfl, h⟩ := hk r G10 hz
    refine z_istore_n (pc' := 24) dX12_name_23 (by decide) rfl ?_
    refine z_aload_n (pc' := 25) dX12_name_24 rfl rfl ?_
    refine z_iload_n (pc' := 26) dX12_name_25 rfl rfl ?_
    refine z_if_ge (pt := 36) (pc' := 29) dX12_name_26 (by decide) rfl (fun hc => ?_) (fun hc => ?_)
    · have h := h.1 hc
      refine z_iconst (x := (-1)) (pc' := 37) dX12_name_36 (by decide) rfl ?_
      exact z_dr (ls' := [some (.ref q0), some (.int x1), some (.int y9), none]) ⟨rfl, rfl, rfl, trivial⟩ h
    · have h := h.2 hc
      refine z_aload_n (pc' := 30) dX12_name_29 rfl rfl ?_
      obtain ⟨h1, h⟩ := h
      refine z_getI (ci := 13) (kf := 6) (pc' := 33) dX12_name_30 kX12_194 (Or.inl rfl) (by decide) (by decide) rfl rfl h1 ?_
      refine z_goto (pc' := 37) dX12_name_33 (by decide) ?_
      exact z_dr (ls' := [some (.ref q0), some (.int x1), some (.int y9), none]) ⟨rfl, rfl, rfl, trivial⟩ h
  · have h := h.2 hc
    refine z_iconst (x := 0) (pc' := 18) dX12_name_17 (by decide) rfl ?_
    exact z_iret dX12_name_18 rfl h
def wp_X12_name_37 (E : ZE) (l : Launch) (d b : Nat) (G0 : ZG) (Q : ZQ) (k : Nat) (q0 : Nat) (x1 : Int32) (x2 : Int32) (s0 : Int32) (p1 : Nat) (G : ZG) : Prop :=
  zob G p1 13 ∧
  ∀ G1, G1 = zsi G p1 8 s0 →
  ((0 ≤ x2 →
    zob G1 q0 13 ∧
    xcI E l mX12_throwsIf d [.ref q0, .int 0, .int 2] G1 k (fun X G9 => Q (.inr X) G9) (fun y2 G3 k4 =>
    ((y2 = 0 →
      zob G3 q0 13 ∧
      zar G3 (zrv G3 q0 33) 2 ∧ vp_in x1 (zln G3 (zrv G3 q0 33)) ∧
      ∀ G5, G5 = zsi G3 (zrv G3 q0 33) x1.toNatClampNeg 1 →
      zW E l mX12_name d b G0 Q k4 68 [some (.ref q0), some (.int x1), some (.int x2), some (.int 0)] [] G5) ∧
    (¬ (y2 = 0) →
      Q (.inl (some (.int 0))) G3)))) ∧
  (¬ (0 ≤ x2) →
    zob G1 q0 13 ∧
    xcI E l mX12_throwsIf d [.ref q0, .int 1, .int 2] G1 k (fun X G9 => Q (.inr X) G9) (fun y6 G7 k8 =>
    ((y6 = 0 →
      zob G7 q0 13 ∧
      zar G7 (zrv G7 q0 33) 2 ∧ vp_in x1 (zln G7 (zrv G7 q0 33)) ∧
      ∀ G9, G9 = zsi G7 (zrv G7 q0 33) x1.toNatClampNeg 1 →
      zW E l mX12_name d b G0 Q k8 68 [some (.ref q0), some (.int x1), some (.int x2), some (.int 0)] [] G9) ∧
    (¬ (y6 = 0) →
      Q (.inl (some (.int 0))) G7)))))
theorem wpt_X12_name_37 {E : ZE} {l : Launch} {d b : Nat} {G0 : ZG} {Q : ZQ} {k : Nat} {q0 : Nat} {x1 : Int32} {x2 : Int32} {s0 : Int32} {p1 : Nat} {G : ZG} (h : wp_X12_name_37 E l d b G0 Q k q0 x1 x2 s0 p1 G) : zW E l mX12_name d b G0 Q k 37 [some (.ref q0), some (.int x1), some (.int x2), none] [.int s0, .ref p1] G := by
  unfold wp_X12_name_37 at h
  obtain ⟨h1, h⟩ := h
  obtain ⟨G1, hG⟩ : ∃ z, z = zsi G p1 8 s0 := ⟨_, rfl⟩
  have h := h _ hG
  refine z_putI (ci := 13) (kf := 8) (pc' := 40) dX12_name_37 kX12_13 (Or.inl rfl) (by decide) (by decide) rfl (Or.inl rfl) rfl h1 (zok_int _) ?_
  refine z_st hG ?_
  refine z_aload_n (pc' := 41) dX12_name_40 rfl rfl ?_
  refine z_iload_n (pc' := 42) dX12_name_41 rfl rfl ?_
  refine z_if_ge (pt := 49) (pc' := 45) dX12_name_42 (by decide) rfl (fun hc => ?_) (fun hc => ?_)
  · have h := h.1 hc
    refine z_iconst (x := 0) (pc' := 50) dX12_name_49 (by decide) rfl ?_
    refine z_iconst (x := 2) (pc' := 51) dX12_name_50 (by decide) rfl ?_
    obtain ⟨h1, h⟩ := h
    obtain ⟨d1, b1, Qz, hm, hdd, hb, hkx, hk⟩ := h
    refine z_callV (Y := mX12_throwsIf) (n := 2) (as := [.int 0, .int 2]) (st := []) (pc' := 54) (ci := 13) (q := q0) hm dX12_name_51 kX12_321 vX12_throwsIf rfl rfl (by decide) rfl h1 hdd hb (Nat.le_of_ble_eq_true rfl) (fun r G3 hz => ?_) hkx
    obtain ⟨y2, rfl, h⟩ := hk r G3 hz
    refine z_if_eq (pt := 59) (pc' := 57) dX12_name_54 (by decide) rfl (fun hc => ?_) (fun hc => ?_)
    · have h := h.1 hc
      refine z_aload_n (pc' := 60) dX12_name_59 rfl rfl ?_
      obtain ⟨h1, h⟩ := h
      refine z_getR (ci := 13) (kf := 33) (pc' := 63) dX12_name_60 kX12_67 (Or.inl rfl) (by decide) (by decide) rfl rfl h1 ?_
      refine z_iload_n (pc' := 64) dX12_name_63 rfl rfl ?_
      refine z_iconst (x := 1) (pc' := 65) dX12_name_64 (by decide) rfl ?_
      obtain ⟨h1, h2, h⟩ := h
      obtain ⟨G5, hG⟩ : ∃ z, z = zsi G3 (zrv G3 q0 33) x1.toNatClampNeg 1 := ⟨_, rfl⟩
      have h := h _ hG
      refine z_zast (pc' := 66) dX12_name_65 rfl h1 h2 zok_1 ?_
      refine z_st hG ?_
      refine z_iconst (x := 0) (pc' := 67) dX12_name_66 (by decide) rfl ?_
      refine z_istore_n (pc' := 68) dX12_name_67 (by decide) rfl ?_
      exact z_dr (ls' := [some (.ref q0), some (.int x1), some (.int x2), some (.int 0)]) ⟨rfl, rfl, rfl, rfl, trivial⟩ h
    · have h := h.2 hc
      refine z_iconst (x := 0) (pc' := 58) dX12_name_57 (by decide) rfl ?_
      exact z_iret dX12_name_58 rfl h
  · have h := h.2 hc
    refine z_iconst (x := 1) (pc' := 46) dX12_name_45 (by decide) rfl ?_
    refine z_goto (pc' := 50) dX12_name_46 (by decide) ?_
    refine z_iconst (x := 2) (pc' := 51) dX12_name_50 (by decide) rfl ?_
    obtain ⟨h1, h⟩ := h
    obtain ⟨d1, b1, Qz, hm, hdd, hb, hkx, hk⟩ := h
    refine z_callV (Y := mX12_throwsIf) (n := 2) (as := [.int 1, .int 2]) (st := []) (pc' := 54) (ci := 13) (q := q0) hm dX12_name_51 kX12_321 vX12_throwsIf rfl rfl (by decide) rfl h1 hdd hb (Nat.le_of_ble_eq_true rfl) (fun r G7 hz => ?_) hkx
    obtain ⟨y6, rfl, h⟩ := hk r G7 hz
    refine z_if_eq (pt := 59) (pc' := 57) dX12_name_54 (by decide) rfl (fun hc => ?_) (fun hc => ?_)
    · have h := h.1 hc
      refine z_aload_n (pc' := 60) dX12_name_59 rfl rfl ?_
      obtain ⟨h1, h⟩ := h
      refine z_getR (ci := 13) (kf := 33) (pc' := 63) dX12_name_60 kX12_67 (Or.inl rfl) (by decide) (by decide) rfl rfl h1 ?_
      refine z_iload_n (pc' := 64) dX12_name_63 rfl rfl ?_
      refine z_iconst (x := 1) (pc' := 65) dX12_name_64 (by decide) rfl ?_
      obtain ⟨h1, h2, h⟩ := h
      obtain ⟨G9, hG⟩ : ∃ z, z = zsi G7 (zrv G7 q0 33) x1.toNatClampNeg 1 := ⟨_, rfl⟩
      have h := h _ hG
      refine z_zast (pc' := 66) dX12_name_65 rfl h1 h2 zok_1 ?_
      refine z_st hG ?_
      refine z_iconst (x := 0) (pc' := 67) dX12_name_66 (by decide) rfl ?_
      refine z_istore_n (pc' := 68) dX12_name_67 (by decide) rfl ?_
      exact z_dr (ls' := [some (.ref q0), some (.int x1), some (.int x2), some (.int 0)]) ⟨rfl, rfl, rfl, rfl, trivial⟩ h
    · have h := h.2 hc
      refine z_iconst (x := 0) (pc' := 58) dX12_name_57 (by decide) rfl ?_
      exact z_iret dX12_name_58 rfl h
def wp_X12_name_68 (E : ZE) (l : Launch) (d b : Nat) (G0 : ZG) (Q : ZQ) (k : Nat) (q0 : Nat) (x1 : Int32) (x2 : Int32) (x3 : Int32) (G : ZG) : Prop :=
  ((24 ≤ x3 →
    Q (.inl (some (.int x2))) G) ∧
  (¬ (24 ≤ x3) →
    zob G q0 13 ∧
    ((x2 ≤ x3 →
      zar G (zrv G q0 32) 0 ∧ vp_in ((24 * x1) + x3) (zln G (zrv G q0 32)) ∧
      ∀ G1, G1 = zsi G (zrv G q0 32) ((24 * x1) + x3).toNatClampNeg 60 →
      zW E l mX12_name d b G0 Q k 68 [some (.ref q0), some (.int x1), some (.int x2), some (.int (x3 + 1))] [] G1) ∧
    (¬ (x2 ≤ x3) →
      zob G q0 13 ∧
      (zar G (zrv G q0 36) 0 ∨ zrd G (zrv G q0 36) .int) ∧ vp_in x3 (zln G (zrv G q0 36)) ∧
      zar G (zrv G q0 32) 0 ∧ vp_in ((24 * x1) + x3) (zln G (zrv G q0 32)) ∧
      ∀ G2, G2 = zsi G (zrv G q0 32) ((24 * x1) + x3).toNatClampNeg (ziv G (zrv G q0 36) x3.toNatClampNeg) →
      zW E l mX12_name d b G0 Q k 68 [some (.ref q0), some (.int x1), some (.int x2), some (.int (x3 + 1))] [] G2))))
theorem wpt_X12_name_68 {E : ZE} {l : Launch} {d b : Nat} {G0 : ZG} {Q : ZQ} {k : Nat} {q0 : Nat} {x1 : Int32} {x2 : Int32} {x3 : Int32} {G : ZG} (h : wp_X12_name_68 E l d b G0 Q k q0 x1 x2 x3 G) : zW E l mX12_name d b G0 Q k 68 [some (.ref q0), some (.int x1), some (.int x2), some (.int x3)] [] G := by
  unfold wp_X12_name_68 at h
  refine z_iload_n (pc' := 69) dX12_name_68 rfl rfl ?_
  refine z_bipush (x := 24) (pc' := 71) dX12_name_69 (by decide) rfl ?_
  refine z_icmp_ge (pt := 107) (pc' := 74) dX12_name_71 (by decide) rfl (fun hc => ?_) (fun hc => ?_)
  · have h := h.1 hc
    refine z_iload_n (pc' := 108) dX12_name_107 rfl rfl ?_
    exact z_iret dX12_name_108 rfl h
  · have h := h.2 hc
    refine z_aload_n (pc' := 75) dX12_name_74 rfl rfl ?_
    obtain ⟨h1, h⟩ := h
    refine z_getR (ci := 13) (kf := 32) (pc' := 78) dX12_name_75 kX12_64 (Or.inl rfl) (by decide) (by decide) rfl rfl h1 ?_
    refine z_bipush (x := 24) (pc' := 80) dX12_name_78 (by decide) rfl ?_
    refine z_iload_n (pc' := 81) dX12_name_80 rfl rfl ?_
    refine z_imul (pc' := 82) dX12_name_81 rfl rfl ?_
    refine z_iload_n (pc' := 83) dX12_name_82 rfl rfl ?_
    refine z_iadd (pc' := 84) dX12_name_83 rfl rfl ?_
    refine z_iload_n (pc' := 85) dX12_name_84 rfl rfl ?_
    refine z_iload_n (pc' := 86) dX12_name_85 rfl rfl ?_
    refine z_icmp_ge (pt := 98) (pc' := 89) dX12_name_86 (by decide) rfl (fun hc => ?_) (fun hc => ?_)
    · have h := h.1 hc
      refine z_bipush (x := 60) (pc' := 100) dX12_name_98 (by decide) rfl ?_
      obtain ⟨h1, h2, h⟩ := h
      obtain ⟨G1, hG⟩ : ∃ z, z = zsi G (zrv G q0 32) ((24 * x1) + x3).toNatClampNeg 60 := ⟨_, rfl⟩
      have h := h _ hG
      refine z_iast (pc' := 101) dX12_name_100 rfl h1 h2  ?_
      refine z_st hG ?_
      refine z_iinc (y := x3 + 1) (pc' := 104) dX12_name_101 rfl (zinc_1 _) (by decide) rfl ?_
      refine z_goto (pc' := 68) dX12_name_104 (by decide) ?_
      exact z_dr (ls' := [some (.ref q0), some (.int x1), some (.int x2), some (.int (x3 + 1))]) ⟨rfl, rfl, rfl, rfl, trivial⟩ h
    · have h := h.2 hc
      refine z_aload_n (pc' := 90) dX12_name_89 rfl rfl ?_
      obtain ⟨h1, h⟩ := h
      refine z_getR (ci := 13) (kf := 36) (pc' := 93) dX12_name_90 kX12_73 (Or.inl rfl) (by decide) (by decide) rfl rfl h1 ?_
      refine z_iload_n (pc' := 94) dX12_name_93 rfl rfl ?_
      obtain ⟨h1, h2, h⟩ := h
      refine z_iald (pc' := 95) dX12_name_94 rfl h1 h2 ?_
      refine z_goto (pc' := 100) dX12_name_95 (by decide) ?_
      obtain ⟨h1, h2, h⟩ := h
      obtain ⟨G2, hG⟩ : ∃ z, z = zsi G (zrv G q0 32) ((24 * x1) + x3).toNatClampNeg (ziv G (zrv G q0 36) x3.toNatClampNeg) := ⟨_, rfl⟩
      have h := h _ hG
      refine z_iast (pc' := 101) dX12_name_100 rfl h1 h2  ?_
      refine z_st hG ?_
      refine z_iinc (y := x3 + 1) (pc' := 104) dX12_name_101 rfl (zinc_1 _) (by decide) rfl ?_
      refine z_goto (pc' := 68) dX12_name_104 (by decide) ?_
      exact z_dr (ls' := [some (.ref q0), some (.int x1), some (.int x2), some (.int (x3 + 1))]) ⟨rfl, rfl, rfl, rfl, trivial⟩ h
def wp_X12_noAsk_0 (E : ZE) (l : Launch) (d b : Nat) (G0 : ZG) (Q : ZQ) (k : Nat) (q0 : Nat) (x1 : Int32) (x2 : Int32) (G : ZG) : Prop :=
  xcI E l mX12_in d [.int x1, .int 0, .int 3] G k (fun X G9 => Q (.inr X) G9) (fun y1 G2 k3 =>
  ((y1 = 0 →
    Q (.inl (some (.int 1))) G2) ∧
  (¬ (y1 = 0) →
    zob G2 q0 13 ∧
    xcI E l mX12_in d [.int x2, .int (ziv G2 q0 1), .int 1000] G2 k3 (fun X G9 => Q (.inr X) G9) (fun y4 G5 k6 =>
    ((¬ y4 = 0 →
      Q (.inl (some (.int 0))) G5) ∧
    (¬ (¬ y4 = 0) →
      Q (.inl (some (.int 1))) G5))))))
theorem wpt_X12_noAsk_0 {E : ZE} {l : Launch} {d b : Nat} {G0 : ZG} {Q : ZQ} {k : Nat} {q0 : Nat} {x1 : Int32} {x2 : Int32} {G : ZG} (h : wp_X12_noAsk_0 E l d b G0 Q k q0 x1 x2 G) : zW E l mX12_noAsk d b G0 Q k 0 [some (.ref q0), some (.int x1), some (.int x2)] [] G := by
  unfold wp_X12_noAsk_0 at h
  refine z_iload_n (pc' := 1) dX12_noAsk_0 rfl rfl ?_
  refine z_iconst (x := 0) (pc' := 2) dX12_noAsk_1 (by decide) rfl ?_
  refine z_iconst (x := 3) (pc' := 3) dX12_noAsk_2 (by decide) rfl ?_
  obtain ⟨d1, b1, Qz, hm, hdd, hb, hkx, hk⟩ := h
  refine z_callS (Y := mX12_in) (n := 3) (as := [.int x1, .int 0, .int 3]) (st := []) (pc' := 6) hm dX12_noAsk_3 kX12_317 sX12_in rfl rfl hdd hb (Nat.le_of_ble_eq_true rfl) (fun r G2 hz => ?_) hkx
  obtain ⟨y1, rfl, h⟩ := hk r G2 hz
  refine z_if_eq (pt := 23) (pc' := 9) dX12_noAsk_6 (by decide) rfl (fun hc => ?_) (fun hc => ?_)
  · have h := h.1 hc
    refine z_iconst (x := 1) (pc' := 24) dX12_noAsk_23 (by decide) rfl ?_
    refine z_goto (pc' := 28) dX12_noAsk_24 (by decide) ?_
    exact z_zret (ty := .boolean) dX12_noAsk_28 rfl (by decide) h
  · have h := h.2 hc
    refine z_iload_n (pc' := 10) dX12_noAsk_9 rfl rfl ?_
    refine z_aload_n (pc' := 11) dX12_noAsk_10 rfl rfl ?_
    obtain ⟨h1, h⟩ := h
    refine z_getI (ci := 13) (kf := 1) (pc' := 14) dX12_noAsk_11 kX12_314 (Or.inl rfl) (by decide) (by decide) rfl rfl h1 ?_
    refine z_sipush (x := 1000) (pc' := 17) dX12_noAsk_14 (by decide) rfl ?_
    obtain ⟨d1, b1, Qz, hm, hdd, hb, hkx, hk⟩ := h
    refine z_callS (Y := mX12_in) (n := 3) (as := [.int x2, .int (ziv G2 q0 1), .int 1000]) (st := []) (pc' := 20) hm dX12_noAsk_17 kX12_317 sX12_in rfl rfl hdd hb (Nat.le_of_ble_eq_true rfl) (fun r G5 hz => ?_) hkx
    obtain ⟨y4, rfl, h⟩ := hk r G5 hz
    refine z_if_ne (pt := 27) (pc' := 23) dX12_noAsk_20 (by decide) rfl (fun hc => ?_) (fun hc => ?_)
    · have h := h.1 hc
      refine z_iconst (x := 0) (pc' := 28) dX12_noAsk_27 (by decide) rfl ?_
      exact z_zret (ty := .boolean) dX12_noAsk_28 rfl (by decide) h
    · have h := h.2 hc
      refine z_iconst (x := 1) (pc' := 24) dX12_noAsk_23 (by decide) rfl ?_
      refine z_goto (pc' := 28) dX12_noAsk_24 (by decide) ?_
      exact z_zret (ty := .boolean) dX12_noAsk_28 rfl (by decide) h
def wp_X12_noAsking_0 (E : ZE) (l : Launch) (d b : Nat) (G0 : ZG) (Q : ZQ) (k : Nat) (q0 : Nat) (x1 : Int32) (G : ZG) : Prop :=
  zob G q0 13 ∧
  xcI E l mX12_in d [.int x1, .int 0, .int ((ziv G q0 66) - 1)] G k (fun X G9 => Q (.inr X) G9) (fun y1 G2 k3 =>
  ((¬ y1 = 0 →
    Q (.inl (some (.int 0))) G2) ∧
  (¬ (¬ y1 = 0) →
    Q (.inl (some (.int 1))) G2)))
theorem wpt_X12_noAsking_0 {E : ZE} {l : Launch} {d b : Nat} {G0 : ZG} {Q : ZQ} {k : Nat} {q0 : Nat} {x1 : Int32} {G : ZG} (h : wp_X12_noAsking_0 E l d b G0 Q k q0 x1 G) : zW E l mX12_noAsking d b G0 Q k 0 [some (.ref q0), some (.int x1)] [] G := by
  unfold wp_X12_noAsking_0 at h
  refine z_iload_n (pc' := 1) dX12_noAsking_0 rfl rfl ?_
  refine z_iconst (x := 0) (pc' := 2) dX12_noAsking_1 (by decide) rfl ?_
  refine z_aload_n (pc' := 3) dX12_noAsking_2 rfl rfl ?_
  obtain ⟨h1, h⟩ := h
  refine z_getI (ci := 13) (kf := 66) (pc' := 6) dX12_noAsking_3 kX12_412 (Or.inl rfl) (by decide) (by decide) rfl rfl h1 ?_
  refine z_iconst (x := 1) (pc' := 7) dX12_noAsking_6 (by decide) rfl ?_
  refine z_isub (pc' := 8) dX12_noAsking_7 rfl rfl ?_
  obtain ⟨d1, b1, Qz, hm, hdd, hb, hkx, hk⟩ := h
  refine z_callS (Y := mX12_in) (n := 3) (as := [.int x1, .int 0, .int ((ziv G q0 66) - 1)]) (st := []) (pc' := 11) hm dX12_noAsking_8 kX12_317 sX12_in rfl rfl hdd hb (Nat.le_of_ble_eq_true rfl) (fun r G2 hz => ?_) hkx
  obtain ⟨y1, rfl, h⟩ := hk r G2 hz
  refine z_if_ne (pt := 18) (pc' := 14) dX12_noAsking_11 (by decide) rfl (fun hc => ?_) (fun hc => ?_)
  · have h := h.1 hc
    refine z_iconst (x := 0) (pc' := 19) dX12_noAsking_18 (by decide) rfl ?_
    exact z_zret (ty := .boolean) dX12_noAsking_19 rfl (by decide) h
  · have h := h.2 hc
    refine z_iconst (x := 1) (pc' := 15) dX12_noAsking_14 (by decide) rfl ?_
    refine z_goto (pc' := 19) dX12_noAsking_15 (by decide) ?_
    exact z_zret (ty := .boolean) dX12_noAsking_19 rfl (by decide) h
def wp_X12_noDesk_0 (E : ZE) (l : Launch) (d b : Nat) (G0 : ZG) (Q : ZQ) (k : Nat) (x0 : Int32) (G : ZG) : Prop :=
  xcI E l mX12_in d [.int x0, .int 0, .int 3] G k (fun X G9 => Q (.inr X) G9) (fun y1 G2 k3 =>
  ((¬ y1 = 0 →
    Q (.inl (some (.int 0))) G2) ∧
  (¬ (¬ y1 = 0) →
    Q (.inl (some (.int 1))) G2)))
theorem wpt_X12_noDesk_0 {E : ZE} {l : Launch} {d b : Nat} {G0 : ZG} {Q : ZQ} {k : Nat} {x0 : Int32} {G : ZG} (h : wp_X12_noDesk_0 E l d b G0 Q k x0 G) : zW E l mX12_noDesk d b G0 Q k 0 [some (.int x0)] [] G := by
  unfold wp_X12_noDesk_0 at h
  refine z_iload_n (pc' := 1) dX12_noDesk_0 rfl rfl ?_
  refine z_iconst (x := 0) (pc' := 2) dX12_noDesk_1 (by decide) rfl ?_
  refine z_iconst (x := 3) (pc' := 3) dX12_noDesk_2 (by decide) rfl ?_
  obtain ⟨d1, b1, Qz, hm, hdd, hb, hkx, hk⟩ := h
  refine z_callS (Y := mX12_in) (n := 3) (as := [.int x0, .int 0, .int 3]) (st := []) (pc' := 6) hm dX12_noDesk_3 kX12_317 sX12_in rfl rfl hdd hb (Nat.le_of_ble_eq_true rfl) (fun r G2 hz => ?_) hkx
  obtain ⟨y1, rfl, h⟩ := hk r G2 hz
  refine z_if_ne (pt := 13) (pc' := 9) dX12_noDesk_6 (by decide) rfl (fun hc => ?_) (fun hc => ?_)
  · have h := h.1 hc
    refine z_iconst (x := 0) (pc' := 14) dX12_noDesk_13 (by decide) rfl ?_
    exact z_zret (ty := .boolean) dX12_noDesk_14 rfl (by decide) h
  · have h := h.2 hc
    refine z_iconst (x := 1) (pc' := 10) dX12_noDesk_9 (by decide) rfl ?_
    refine z_goto (pc' := 14) dX12_noDesk_10 (by decide) ?_
    exact z_zret (ty := .boolean) dX12_noDesk_14 rfl (by decide) h
def wp_X12_noFace_0 (E : ZE) (l : Launch) (d b : Nat) (G0 : ZG) (Q : ZQ) (k : Nat) (x0 : Int32) (G : ZG) : Prop :=
  xcI E l mX12_in d [.int x0, .int 0, .int 99] G k (fun X G9 => Q (.inr X) G9) (fun y1 G2 k3 =>
  ((¬ y1 = 0 →
    Q (.inl (some (.int 0))) G2) ∧
  (¬ (¬ y1 = 0) →
    Q (.inl (some (.int 1))) G2)))
theorem wpt_X12_noFace_0 {E : ZE} {l : Launch} {d b : Nat} {G0 : ZG} {Q : ZQ} {k : Nat} {x0 : Int32} {G : ZG} (h : wp_X12_noFace_0 E l d b G0 Q k x0 G) : zW E l mX12_noFace d b G0 Q k 0 [some (.int x0)] [] G := by
  unfold wp_X12_noFace_0 at h
  refine z_iload_n (pc' := 1) dX12_noFace_0 rfl rfl ?_
  refine z_iconst (x := 0) (pc' := 2) dX12_noFace_1 (by decide) rfl ?_
  refine z_bipush (x := 99) (pc' := 4) dX12_noFace_2 (by decide) rfl ?_
  obtain ⟨d1, b1, Qz, hm, hdd, hb, hkx, hk⟩ := h
  refine z_callS (Y := mX12_in) (n := 3) (as := [.int x0, .int 0, .int 99]) (st := []) (pc' := 7) hm dX12_noFace_4 kX12_317 sX12_in rfl rfl hdd hb (Nat.le_of_ble_eq_true rfl) (fun r G2 hz => ?_) hkx
  obtain ⟨y1, rfl, h⟩ := hk r G2 hz
  refine z_if_ne (pt := 14) (pc' := 10) dX12_noFace_7 (by decide) rfl (fun hc => ?_) (fun hc => ?_)
  · have h := h.1 hc
    refine z_iconst (x := 0) (pc' := 15) dX12_noFace_14 (by decide) rfl ?_
    exact z_zret (ty := .boolean) dX12_noFace_15 rfl (by decide) h
  · have h := h.2 hc
    refine z_iconst (x := 1) (pc' := 11) dX12_noFace_10 (by decide) rfl ?_
    refine z_goto (pc' := 15) dX12_noFace_11 (by decide) ?_
    exact z_zret (ty := .boolean) dX12_noFace_15 rfl (by decide) h
def wp_X12_nobody_0 (E : ZE) (l : Launch) (d b : Nat) (G0 : ZG) (Q : ZQ) (k : Nat) (q0 : Nat) (x1 : Int32) (G : ZG) : Prop :=
  zob G q0 13 ∧
  xcI E l mX12_in d [.int x1, .int 0, .int ((ziv G q0 34) - 1)] G k (fun X G9 => Q (.inr X) G9) (fun y1 G2 k3 =>
  ((¬ y1 = 0 →
    Q (.inl (some (.int 0))) G2) ∧
  (¬ (¬ y1 = 0) →
    Q (.inl (some (.int 1))) G2)))
theorem wpt_X12_nobody_0 {E : ZE} {l : Launch} {d b : Nat} {G0 : ZG} {Q : ZQ} {k : Nat} {q0 : Nat} {x1 : Int32} {G : ZG} (h : wp_X12_nobody_0 E l d b G0 Q k q0 x1 G) : zW E l mX12_nobody d b G0 Q k 0 [some (.ref q0), some (.int x1)] [] G := by
  unfold wp_X12_nobody_0 at h
  refine z_iload_n (pc' := 1) dX12_nobody_0 rfl rfl ?_
  refine z_iconst (x := 0) (pc' := 2) dX12_nobody_1 (by decide) rfl ?_
  refine z_aload_n (pc' := 3) dX12_nobody_2 rfl rfl ?_
  obtain ⟨h1, h⟩ := h
  refine z_getI (ci := 13) (kf := 34) (pc' := 6) dX12_nobody_3 kX12_372 (Or.inl rfl) (by decide) (by decide) rfl rfl h1 ?_
  refine z_iconst (x := 1) (pc' := 7) dX12_nobody_6 (by decide) rfl ?_
  refine z_isub (pc' := 8) dX12_nobody_7 rfl rfl ?_
  obtain ⟨d1, b1, Qz, hm, hdd, hb, hkx, hk⟩ := h
  refine z_callS (Y := mX12_in) (n := 3) (as := [.int x1, .int 0, .int ((ziv G q0 34) - 1)]) (st := []) (pc' := 11) hm dX12_nobody_8 kX12_317 sX12_in rfl rfl hdd hb (Nat.le_of_ble_eq_true rfl) (fun r G2 hz => ?_) hkx
  obtain ⟨y1, rfl, h⟩ := hk r G2 hz
  refine z_if_ne (pt := 18) (pc' := 14) dX12_nobody_11 (by decide) rfl (fun hc => ?_) (fun hc => ?_)
  · have h := h.1 hc
    refine z_iconst (x := 0) (pc' := 19) dX12_nobody_18 (by decide) rfl ?_
    exact z_zret (ty := .boolean) dX12_nobody_19 rfl (by decide) h
  · have h := h.2 hc
    refine z_iconst (x := 1) (pc' := 15) dX12_nobody_14 (by decide) rfl ?_
    refine z_goto (pc' := 19) dX12_nobody_15 (by decide) ?_
    exact z_zret (ty := .boolean) dX12_nobody_19 rfl (by decide) h
def wp_X12_now_0 (E : ZE) (l : Launch) (d b : Nat) (G0 : ZG) (Q : ZQ) (k : Nat) (q0 : Nat) (x1 : Int32) (x2 : Int32) (G : ZG) : Prop :=
  zob G q0 13 ∧
  (zar G (zrv G q0 65) 0 ∨ zrd G (zrv G q0 65) .int) ∧ vp_in ((7 * x1) + x2) (zln G (zrv G q0 65)) ∧
  Q (.inl (some (.int (ziv G (zrv G q0 65) ((7 * x1) + x2).toNatClampNeg)))) G
theorem wpt_X12_now_0 {E : ZE} {l : Launch} {d b : Nat} {G0 : ZG} {Q : ZQ} {k : Nat} {q0 : Nat} {x1 : Int32} {x2 : Int32} {G : ZG} (h : wp_X12_now_0 E l d b G0 Q k q0 x1 x2 G) : zW E l mX12_now d b G0 Q k 0 [some (.ref q0), some (.int x1), some (.int x2)] [] G := by
  unfold wp_X12_now_0 at h
  refine z_aload_n (pc' := 1) dX12_now_0 rfl rfl ?_
  obtain ⟨h1, h⟩ := h
  refine z_getR (ci := 13) (kf := 65) (pc' := 4) dX12_now_1 kX12_148 (Or.inl rfl) (by decide) (by decide) rfl rfl h1 ?_
  refine z_bipush (x := 7) (pc' := 6) dX12_now_4 (by decide) rfl ?_
  refine z_iload_n (pc' := 7) dX12_now_6 rfl rfl ?_
  refine z_imul (pc' := 8) dX12_now_7 rfl rfl ?_
  refine z_iload_n (pc' := 9) dX12_now_8 rfl rfl ?_
  refine z_iadd (pc' := 10) dX12_now_9 rfl rfl ?_
  obtain ⟨h1, h2, h⟩ := h
  refine z_iald (pc' := 11) dX12_now_10 rfl h1 h2 ?_
  exact z_iret dX12_now_11 rfl h
def wp_X12_number_0 (E : ZE) (l : Launch) (d b : Nat) (G0 : ZG) (Q : ZQ) (k : Nat) (q0 : Nat) (G : ZG) : Prop :=
  zob G q0 13 ∧
  xcV E l mX12_blanksBetween d [.ref q0] G k (fun X G9 => Q (.inr X) G9) (fun G1 k2 =>
  zW E l mX12_number d b G0 Q k2 6 [some (.ref q0), some (.int 0)] [] G1)
theorem wpt_X12_number_0 {E : ZE} {l : Launch} {d b : Nat} {G0 : ZG} {Q : ZQ} {k : Nat} {q0 : Nat} {G : ZG} (h : wp_X12_number_0 E l d b G0 Q k q0 G) : zW E l mX12_number d b G0 Q k 0 [some (.ref q0), none] [] G := by
  unfold wp_X12_number_0 at h
  refine z_aload_n (pc' := 1) dX12_number_0 rfl rfl ?_
  obtain ⟨h1, h⟩ := h
  obtain ⟨d1, b1, Qz, hm, hdd, hb, hkx, hk⟩ := h
  refine z_callV (Y := mX12_blanksBetween) (n := 0) (as := []) (st := []) (pc' := 4) (ci := 13) (q := q0) hm dX12_number_1 kX12_197 vX12_blanksBetween rfl rfl (by decide) rfl h1 hdd hb (Nat.le_of_ble_eq_true rfl) (fun r G1 hz => ?_) hkx
  obtain ⟨rfl, h⟩ := hk r G1 hz
  refine z_iconst (x := 0) (pc' := 5) dX12_number_4 (by decide) rfl ?_
  refine z_istore_n (pc' := 6) dX12_number_5 (by decide) rfl ?_
  exact z_dr (ls' := [some (.ref q0), some (.int 0)]) ⟨rfl, rfl, trivial⟩ h
def wp_X12_number_6 (E : ZE) (l : Launch) (d b : Nat) (G0 : ZG) (Q : ZQ) (k : Nat) (q0 : Nat) (x1 : Int32) (G : ZG) : Prop :=
  zob G q0 13 ∧
  xcI E l mX12_isAt d [.ref q0, .int 48, .int 57] G k (fun X G9 => Q (.inr X) G9) (fun y1 G2 k3 =>
  ((y1 = 0 →
    zob G2 q0 13 ∧
    zob G2 q0 13 ∧
    (((ziv G2 q0 4) = (ziv G2 q0 6) →
      Q (.inl (some (.int (-1)))) G2) ∧
    (¬ ((ziv G2 q0 4) = (ziv G2 q0 6)) →
      zob G2 q0 13 ∧
      zob G2 q0 13 ∧
      ((((ziv G2 q0 4) - (ziv G2 q0 6)) ≤ 4 →
        Q (.inl (some (.int x1))) G2) ∧
      (¬ (((ziv G2 q0 4) - (ziv G2 q0 6)) ≤ 4) →
        Q (.inl (some (.int (-1)))) G2))))) ∧
  (¬ (y1 = 0) →
    zob G2 q0 13 ∧
    zob G2 q0 13 ∧
    ((4 ≤ ((ziv G2 q0 4) - (ziv G2 q0 6)) →
      zob G2 q0 13 ∧
      zob G2 q0 13 ∧
      ∀ G4, G4 = zsi G2 q0 4 ((ziv G2 q0 4) + 1) →
      zW E l mX12_number d b G0 Q k3 6 [some (.ref q0), some (.int x1)] [] G4) ∧
    (¬ (4 ≤ ((ziv G2 q0 4) - (ziv G2 q0 6))) →
      zob G2 q0 13 ∧
      zob G2 q0 13 ∧
      (zar G2 (zrv G2 q0 2) 1 ∨ zrd G2 (zrv G2 q0 2) .byte) ∧ vp_in (ziv G2 q0 4) (zln G2 (zrv G2 q0 2)) ∧
      zob G2 q0 13 ∧
      zob G2 q0 13 ∧
      ∀ G5, G5 = zsi G2 q0 4 ((ziv G2 q0 4) + 1) →
      zW E l mX12_number d b G0 Q k3 6 [some (.ref q0), some (.int (((10 * x1) + (ziv G2 (zrv G2 q0 2) (ziv G2 q0 4).toNatClampNeg)) - 48))] [] G5)))))
theorem wpt_X12_number_6 {E : ZE} {l : Launch} {d b : Nat} {G0 : ZG} {Q : ZQ} {k : Nat} {q0 : Nat} {x1 : Int32} {G : ZG} (h : wp_X12_number_6 E l d b G0 Q k q0 x1 G) : zW E l mX12_number d b G0 Q k 6 [some (.ref q0), some (.int x1)] [] G := by
  unfold wp_X12_number_6 at h
  refine z_aload_n (pc' := 7) dX12_number_6 rfl rfl ?_
  refine z_bipush (x := 48) (pc' := 9) dX12_number_7 (by decide) rfl ?_
  refine z_bipush (x := 57) (pc' := 11) dX12_number_9 (by decide) rfl ?_
  obtain ⟨h1, h⟩ := h
  obtain ⟨d1, b1, Qz, hm, hdd, hb, hkx, hk⟩ := h
  refine z_callV (Y := mX12_isAt) (n := 2) (as := [.int 48, .int 57]) (st := []) (pc' := 14) (ci := 13) (q := q0) hm dX12_number_11 kX12_190 vX12_isAt rfl rfl (by decide) rfl h1 hdd hb (Nat.le_of_ble_eq_true rfl) (fun r G2 hz => ?_) hkx
  obtain ⟨y1, rfl, h⟩ := hk r G2 hz
  refine z_if_eq (pt := 65) (pc' := 17) dX12_number_14 (by decide) rfl (fun hc => ?_) (fun hc => ?_)
  · have h := h.1 hc
    refine z_aload_n (pc' := 66) dX12_number_65 rfl rfl ?_
    obtain ⟨h1, h⟩ := h
    refine z_getI (ci := 13) (kf := 4) (pc' := 69) dX12_number_66 kX12_187 (Or.inl rfl) (by decide) (by decide) rfl rfl h1 ?_
    refine z_aload_n (pc' := 70) dX12_number_69 rfl rfl ?_
    obtain ⟨h1, h⟩ := h
    refine z_getI (ci := 13) (kf := 6) (pc' := 73) dX12_number_70 kX12_194 (Or.inl rfl) (by decide) (by decide) rfl rfl h1 ?_
    refine z_icmp_eq (pt := 89) (pc' := 76) dX12_number_73 (by decide) rfl (fun hc => ?_) (fun hc => ?_)
    · have h := h.1 hc
      refine z_iconst (x := (-1)) (pc' := 90) dX12_number_89 (by decide) rfl ?_
      refine z_goto (pc' := 94) dX12_number_90 (by decide) ?_
      exact z_iret dX12_number_94 rfl h
    · have h := h.2 hc
      refine z_aload_n (pc' := 77) dX12_number_76 rfl rfl ?_
      obtain ⟨h1, h⟩ := h
      refine z_getI (ci := 13) (kf := 4) (pc' := 80) dX12_number_77 kX12_187 (Or.inl rfl) (by decide) (by decide) rfl rfl h1 ?_
      refine z_aload_n (pc' := 81) dX12_number_80 rfl rfl ?_
      obtain ⟨h1, h⟩ := h
      refine z_getI (ci := 13) (kf := 6) (pc' := 84) dX12_number_81 kX12_194 (Or.inl rfl) (by decide) (by decide) rfl rfl h1 ?_
      refine z_isub (pc' := 85) dX12_number_84 rfl rfl ?_
      refine z_iconst (x := 4) (pc' := 86) dX12_number_85 (by decide) rfl ?_
      refine z_icmp_le (pt := 93) (pc' := 89) dX12_number_86 (by decide) rfl (fun hc => ?_) (fun hc => ?_)
      · have h := h.1 hc
        refine z_iload_n (pc' := 94) dX12_number_93 rfl rfl ?_
        exact z_iret dX12_number_94 rfl h
      · have h := h.2 hc
        refine z_iconst (x := (-1)) (pc' := 90) dX12_number_89 (by decide) rfl ?_
        refine z_goto (pc' := 94) dX12_number_90 (by decide) ?_
        exact z_iret dX12_number_94 rfl h
  · have h := h.2 hc
    refine z_aload_n (pc' := 18) dX12_number_17 rfl rfl ?_
    obtain ⟨h1, h⟩ := h
    refine z_getI (ci := 13) (kf := 4) (pc' := 21) dX12_number_18 kX12_187 (Or.inl rfl) (by decide) (by decide) rfl rfl h1 ?_
    refine z_aload_n (pc' := 22) dX12_number_21 rfl rfl ?_
    obtain ⟨h1, h⟩ := h
    refine z_getI (ci := 13) (kf := 6) (pc' := 25) dX12_number_22 kX12_194 (Or.inl rfl) (by decide) (by decide) rfl rfl h1 ?_
    refine z_isub (pc' := 26) dX12_number_25 rfl rfl ?_
    refine z_iconst (x := 4) (pc' := 27) dX12_number_26 (by decide) rfl ?_
    refine z_icmp_ge (pt := 50) (pc' := 30) dX12_number_27 (by decide) rfl (fun hc => ?_) (fun hc => ?_)
    · have h := h.1 hc
      refine z_iload_n (pc' := 51) dX12_number_50 rfl rfl ?_
      refine z_istore_n (pc' := 52) dX12_number_51 (by decide) rfl ?_
      refine z_aload_n (pc' := 53) dX12_number_52 rfl rfl ?_
      refine z_dup (pc' := 54) dX12_number_53 rfl rfl ?_
      obtain ⟨h1, h⟩ := h
      refine z_getI (ci := 13) (kf := 4) (pc' := 57) dX12_number_54 kX12_187 (Or.inl rfl) (by decide) (by decide) rfl rfl h1 ?_
      refine z_iconst (x := 1) (pc' := 58) dX12_number_57 (by decide) rfl ?_
      refine z_iadd (pc' := 59) dX12_number_58 rfl rfl ?_
      obtain ⟨h1, h⟩ := h
      obtain ⟨G4, hG⟩ : ∃ z, z = zsi G2 q0 4 ((ziv G2 q0 4) + 1) := ⟨_, rfl⟩
      have h := h _ hG
      refine z_putI (ci := 13) (kf := 4) (pc' := 62) dX12_number_59 kX12_187 (Or.inl rfl) (by decide) (by decide) rfl (Or.inl rfl) rfl h1 (zok_int _) ?_
      refine z_st hG ?_
      refine z_goto (pc' := 6) dX12_number_62 (by decide) ?_
      exact z_dr (ls' := [some (.ref q0), some (.int x1)]) ⟨rfl, rfl, trivial⟩ h
    · have h := h.2 hc
      refine z_bipush (x := 10) (pc' := 32) dX12_number_30 (by decide) rfl ?_
      refine z_iload_n (pc' := 33) dX12_number_32 rfl rfl ?_
      refine z_imul (pc' := 34) dX12_number_33 rfl rfl ?_
      refine z_aload_n (pc' := 35) dX12_number_34 rfl rfl ?_
      obtain ⟨h1, h⟩ := h
      refine z_getR (ci := 13) (kf := 2) (pc' := 38) dX12_number_35 kX12_9 (Or.inl rfl) (by decide) (by decide) rfl rfl h1 ?_
      refine z_aload_n (pc' := 39) dX12_number_38 rfl rfl ?_
      obtain ⟨h1, h⟩ := h
      refine z_getI (ci := 13) (kf := 4) (pc' := 42) dX12_number_39 kX12_187 (Or.inl rfl) (by decide) (by decide) rfl rfl h1 ?_
      obtain ⟨h1, h2, h⟩ := h
      refine z_bald (pc' := 43) dX12_number_42 rfl h1 h2 ?_
      refine z_iadd (pc' := 44) dX12_number_43 rfl rfl ?_
      refine z_bipush (x := 48) (pc' := 46) dX12_number_44 (by decide) rfl ?_
      refine z_isub (pc' := 47) dX12_number_46 rfl rfl ?_
      refine z_goto (pc' := 51) dX12_number_47 (by decide) ?_
      refine z_istore_n (pc' := 52) dX12_number_51 (by decide) rfl ?_
      refine z_aload_n (pc' := 53) dX12_number_52 rfl rfl ?_
      refine z_dup (pc' := 54) dX12_number_53 rfl rfl ?_
      obtain ⟨h1, h⟩ := h
      refine z_getI (ci := 13) (kf := 4) (pc' := 57) dX12_number_54 kX12_187 (Or.inl rfl) (by decide) (by decide) rfl rfl h1 ?_
      refine z_iconst (x := 1) (pc' := 58) dX12_number_57 (by decide) rfl ?_
      refine z_iadd (pc' := 59) dX12_number_58 rfl rfl ?_
      obtain ⟨h1, h⟩ := h
      obtain ⟨G5, hG⟩ : ∃ z, z = zsi G2 q0 4 ((ziv G2 q0 4) + 1) := ⟨_, rfl⟩
      have h := h _ hG
      refine z_putI (ci := 13) (kf := 4) (pc' := 62) dX12_number_59 kX12_187 (Or.inl rfl) (by decide) (by decide) rfl (Or.inl rfl) rfl h1 (zok_int _) ?_
      refine z_st hG ?_
      refine z_goto (pc' := 6) dX12_number_62 (by decide) ?_
      exact z_dr (ls' := [some (.ref q0), some (.int (((10 * x1) + (ziv G2 (zrv G2 q0 2) (ziv G2 q0 4).toNatClampNeg)) - 48))]) ⟨rfl, rfl, trivial⟩ h
def wp_X12_order_0 (E : ZE) (l : Launch) (d b : Nat) (G0 : ZG) (Q : ZQ) (k : Nat) (q0 : Nat) (x1 : Int32) (G : ZG) : Prop :=
  zob G q0 13 ∧
  ∀ G1, G1 = zsi G q0 0 0 →
  xcI E l mX12_in d [.int x1, .int 0, .int 2] G1 k (fun X G9 => Q (.inr X) G9) (fun y2 G3 k4 =>
  ((¬ y2 = 0 →
    zob G3 q0 13 ∧
    xcI E l mX12_throwsIf d [.ref q0, .int 0, .int 1] G3 k4 (fun X G9 => Q (.inr X) G9) (fun y5 G6 k7 =>
    ((y5 = 0 →
      zob G6 q0 13 ∧
      ∀ G8, G8 = zsi G6 q0 42 x1 →
      Q (.inl none) G8) ∧
    (¬ (y5 = 0) →
      Q (.inl none) G6)))) ∧
  (¬ (¬ y2 = 0) →
    zob G3 q0 13 ∧
    xcI E l mX12_throwsIf d [.ref q0, .int 1, .int 1] G3 k4 (fun X G9 => Q (.inr X) G9) (fun y9 G10 k11 =>
    ((y9 = 0 →
      zob G10 q0 13 ∧
      ∀ G12, G12 = zsi G10 q0 42 x1 →
      Q (.inl none) G12) ∧
    (¬ (y9 = 0) →
      Q (.inl none) G10))))))
theorem wpt_X12_order_0 {E : ZE} {l : Launch} {d b : Nat} {G0 : ZG} {Q : ZQ} {k : Nat} {q0 : Nat} {x1 : Int32} {G : ZG} (h : wp_X12_order_0 E l d b G0 Q k q0 x1 G) : zW E l mX12_order d b G0 Q k 0 [some (.ref q0), some (.int x1)] [] G := by
  unfold wp_X12_order_0 at h
  refine z_aload_n (pc' := 1) dX12_order_0 rfl rfl ?_
  refine z_iconst (x := 0) (pc' := 2) dX12_order_1 (by decide) rfl ?_
  obtain ⟨h1, h⟩ := h
  obtain ⟨G1, hG⟩ : ∃ z, z = zsi G q0 0 0 := ⟨_, rfl⟩
  have h := h _ hG
  refine z_putI (ci := 13) (kf := 0) (pc' := 5) dX12_order_2 kX12_178 (Or.inl rfl) (by decide) (by decide) rfl (Or.inl rfl) rfl h1 (zok_int _) ?_
  refine z_st hG ?_
  refine z_aload_n (pc' := 6) dX12_order_5 rfl rfl ?_
  refine z_iload_n (pc' := 7) dX12_order_6 rfl rfl ?_
  refine z_iconst (x := 0) (pc' := 8) dX12_order_7 (by decide) rfl ?_
  refine z_iconst (x := 2) (pc' := 9) dX12_order_8 (by decide) rfl ?_
  obtain ⟨d1, b1, Qz, hm, hdd, hb, hkx, hk⟩ := h
  refine z_callS (Y := mX12_in) (n := 3) (as := [.int x1, .int 0, .int 2]) (st := [.ref q0]) (pc' := 12) hm dX12_order_9 kX12_317 sX12_in rfl rfl hdd hb (Nat.le_of_ble_eq_true rfl) (fun r G3 hz => ?_) hkx
  obtain ⟨y2, rfl, h⟩ := hk r G3 hz
  refine z_if_ne (pt := 19) (pc' := 15) dX12_order_12 (by decide) rfl (fun hc => ?_) (fun hc => ?_)
  · have h := h.1 hc
    refine z_iconst (x := 0) (pc' := 20) dX12_order_19 (by decide) rfl ?_
    refine z_iconst (x := 1) (pc' := 21) dX12_order_20 (by decide) rfl ?_
    obtain ⟨h1, h⟩ := h
    obtain ⟨d1, b1, Qz, hm, hdd, hb, hkx, hk⟩ := h
    refine z_callV (Y := mX12_throwsIf) (n := 2) (as := [.int 0, .int 1]) (st := []) (pc' := 24) (ci := 13) (q := q0) hm dX12_order_21 kX12_321 vX12_throwsIf rfl rfl (by decide) rfl h1 hdd hb (Nat.le_of_ble_eq_true rfl) (fun r G6 hz => ?_) hkx
    obtain ⟨y5, rfl, h⟩ := hk r G6 hz
    refine z_if_eq (pt := 28) (pc' := 27) dX12_order_24 (by decide) rfl (fun hc => ?_) (fun hc => ?_)
    · have h := h.1 hc
      refine z_aload_n (pc' := 29) dX12_order_28 rfl rfl ?_
      refine z_iload_n (pc' := 30) dX12_order_29 rfl rfl ?_
      obtain ⟨h1, h⟩ := h
      obtain ⟨G8, hG⟩ : ∃ z, z = zsi G6 q0 42 x1 := ⟨_, rfl⟩
      have h := h _ hG
      refine z_putI (ci := 13) (kf := 42) (pc' := 33) dX12_order_30 kX12_403 (Or.inl rfl) (by decide) (by decide) rfl (Or.inl rfl) rfl h1 (zok_int _) ?_
      refine z_st hG ?_
      exact z_vret dX12_order_33 rfl h
    · have h := h.2 hc
      exact z_vret dX12_order_27 rfl h
  · have h := h.2 hc
    refine z_iconst (x := 1) (pc' := 16) dX12_order_15 (by decide) rfl ?_
    refine z_goto (pc' := 20) dX12_order_16 (by decide) ?_
    refine z_iconst (x := 1) (pc' := 21) dX12_order_20 (by decide) rfl ?_
    obtain ⟨h1, h⟩ := h
    obtain ⟨d1, b1, Qz, hm, hdd, hb, hkx, hk⟩ := h
    refine z_callV (Y := mX12_throwsIf) (n := 2) (as := [.int 1, .int 1]) (st := []) (pc' := 24) (ci := 13) (q := q0) hm dX12_order_21 kX12_321 vX12_throwsIf rfl rfl (by decide) rfl h1 hdd hb (Nat.le_of_ble_eq_true rfl) (fun r G10 hz => ?_) hkx
    obtain ⟨y9, rfl, h⟩ := hk r G10 hz
    refine z_if_eq (pt := 28) (pc' := 27) dX12_order_24 (by decide) rfl (fun hc => ?_) (fun hc => ?_)
    · have h := h.1 hc
      refine z_aload_n (pc' := 29) dX12_order_28 rfl rfl ?_
      refine z_iload_n (pc' := 30) dX12_order_29 rfl rfl ?_
      obtain ⟨h1, h⟩ := h
      obtain ⟨G12, hG⟩ : ∃ z, z = zsi G10 q0 42 x1 := ⟨_, rfl⟩
      have h := h _ hG
      refine z_putI (ci := 13) (kf := 42) (pc' := 33) dX12_order_30 kX12_403 (Or.inl rfl) (by decide) (by decide) rfl (Or.inl rfl) rfl h1 (zok_int _) ?_
      refine z_st hG ?_
      exact z_vret dX12_order_33 rfl h
    · have h := h.2 hc
      exact z_vret dX12_order_27 rfl h
def wp_X12_passes_0 (E : ZE) (l : Launch) (d b : Nat) (G0 : ZG) (Q : ZQ) (k : Nat) (q0 : Nat) (q1 : Nat) (G : ZG) : Prop :=
  zob G q0 13 ∧
  xcV E l mX12_word d [.ref q0] G k (fun X G9 => Q (.inr X) G9) (fun G1 k2 =>
  zob G1 q0 13 ∧
  xcI E l mX12_isWord d [.ref q0, .ref q1] G1 k2 (fun X G9 => Q (.inr X) G9) (fun y3 G4 k5 =>
  ((y3 = 0 →
    zob G4 q0 13 ∧
    zob G4 q0 13 ∧
    ∀ G6, G6 = zsi G4 q0 4 (ziv G4 q0 6) →
    Q (.inl (some (.int 0))) G6) ∧
  (¬ (y3 = 0) →
    Q (.inl (some (.int 1))) G4))))
theorem wpt_X12_passes_0 {E : ZE} {l : Launch} {d b : Nat} {G0 : ZG} {Q : ZQ} {k : Nat} {q0 : Nat} {q1 : Nat} {G : ZG} (h : wp_X12_passes_0 E l d b G0 Q k q0 q1 G) : zW E l mX12_passes d b G0 Q k 0 [some (.ref q0), some (.ref q1)] [] G := by
  unfold wp_X12_passes_0 at h
  refine z_aload_n (pc' := 1) dX12_passes_0 rfl rfl ?_
  obtain ⟨h1, h⟩ := h
  obtain ⟨d1, b1, Qz, hm, hdd, hb, hkx, hk⟩ := h
  refine z_callV (Y := mX12_word) (n := 0) (as := []) (st := []) (pc' := 4) (ci := 13) (q := q0) hm dX12_passes_1 kX12_210 vX12_word rfl rfl (by decide) rfl h1 hdd hb (Nat.le_of_ble_eq_true rfl) (fun r G1 hz => ?_) hkx
  obtain ⟨rfl, h⟩ := hk r G1 hz
  refine z_aload_n (pc' := 5) dX12_passes_4 rfl rfl ?_
  refine z_aload_n (pc' := 6) dX12_passes_5 rfl rfl ?_
  obtain ⟨h1, h⟩ := h
  obtain ⟨d1, b1, Qz, hm, hdd, hb, hkx, hk⟩ := h
  refine z_callV (Y := mX12_isWord) (n := 1) (as := [.ref q1]) (st := []) (pc' := 9) (ci := 13) (q := q0) hm dX12_passes_6 kX12_213 vX12_isWord rfl rfl (by decide) rfl h1 hdd hb (Nat.le_of_ble_eq_true rfl) (fun r G4 hz => ?_) hkx
  obtain ⟨y3, rfl, h⟩ := hk r G4 hz
  refine z_if_eq (pt := 14) (pc' := 12) dX12_passes_9 (by decide) rfl (fun hc => ?_) (fun hc => ?_)
  · have h := h.1 hc
    refine z_aload_n (pc' := 15) dX12_passes_14 rfl rfl ?_
    refine z_aload_n (pc' := 16) dX12_passes_15 rfl rfl ?_
    obtain ⟨h1, h⟩ := h
    refine z_getI (ci := 13) (kf := 6) (pc' := 19) dX12_passes_16 kX12_194 (Or.inl rfl) (by decide) (by decide) rfl rfl h1 ?_
    obtain ⟨h1, h⟩ := h
    obtain ⟨G6, hG⟩ : ∃ z, z = zsi G4 q0 4 (ziv G4 q0 6) := ⟨_, rfl⟩
    have h := h _ hG
    refine z_putI (ci := 13) (kf := 4) (pc' := 22) dX12_passes_19 kX12_187 (Or.inl rfl) (by decide) (by decide) rfl (Or.inl rfl) rfl h1 (zok_int _) ?_
    refine z_st hG ?_
    refine z_iconst (x := 0) (pc' := 23) dX12_passes_22 (by decide) rfl ?_
    exact z_zret (ty := .boolean) dX12_passes_23 rfl (by decide) h
  · have h := h.2 hc
    refine z_iconst (x := 1) (pc' := 13) dX12_passes_12 (by decide) rfl ?_
    exact z_zret (ty := .boolean) dX12_passes_13 rfl (by decide) h
def wp_X12_passesSign_0 (E : ZE) (l : Launch) (d b : Nat) (G0 : ZG) (Q : ZQ) (k : Nat) (q0 : Nat) (x1 : Int32) (G : ZG) : Prop :=
  zob G q0 13 ∧
  xcV E l mX12_blanksBetween d [.ref q0] G k (fun X G9 => Q (.inr X) G9) (fun G1 k2 =>
  zob G1 q0 13 ∧
  xcI E l mX12_isAt d [.ref q0, .int x1, .int x1] G1 k2 (fun X G9 => Q (.inr X) G9) (fun y3 G4 k5 =>
  ((¬ y3 = 0 →
    zob G4 q0 13 ∧
    zob G4 q0 13 ∧
    ∀ G6, G6 = zsi G4 q0 4 ((ziv G4 q0 4) + 1) →
    Q (.inl (some (.int 1))) G6) ∧
  (¬ (¬ y3 = 0) →
    Q (.inl (some (.int 0))) G4))))
theorem wpt_X12_passesSign_0 {E : ZE} {l : Launch} {d b : Nat} {G0 : ZG} {Q : ZQ} {k : Nat} {q0 : Nat} {x1 : Int32} {G : ZG} (h : wp_X12_passesSign_0 E l d b G0 Q k q0 x1 G) : zW E l mX12_passesSign d b G0 Q k 0 [some (.ref q0), some (.int x1)] [] G := by
  unfold wp_X12_passesSign_0 at h
  refine z_aload_n (pc' := 1) dX12_passesSign_0 rfl rfl ?_
  obtain ⟨h1, h⟩ := h
  obtain ⟨d1, b1, Qz, hm, hdd, hb, hkx, hk⟩ := h
  refine z_callV (Y := mX12_blanksBetween) (n := 0) (as := []) (st := []) (pc' := 4) (ci := 13) (q := q0) hm dX12_passesSign_1 kX12_197 vX12_blanksBetween rfl rfl (by decide) rfl h1 hdd hb (Nat.le_of_ble_eq_true rfl) (fun r G1 hz => ?_) hkx
  obtain ⟨rfl, h⟩ := hk r G1 hz
  refine z_aload_n (pc' := 5) dX12_passesSign_4 rfl rfl ?_
  refine z_iload_n (pc' := 6) dX12_passesSign_5 rfl rfl ?_
  refine z_iload_n (pc' := 7) dX12_passesSign_6 rfl rfl ?_
  obtain ⟨h1, h⟩ := h
  obtain ⟨d1, b1, Qz, hm, hdd, hb, hkx, hk⟩ := h
  refine z_callV (Y := mX12_isAt) (n := 2) (as := [.int x1, .int x1]) (st := []) (pc' := 10) (ci := 13) (q := q0) hm dX12_passesSign_7 kX12_190 vX12_isAt rfl rfl (by decide) rfl h1 hdd hb (Nat.le_of_ble_eq_true rfl) (fun r G4 hz => ?_) hkx
  obtain ⟨y3, rfl, h⟩ := hk r G4 hz
  refine z_if_ne (pt := 15) (pc' := 13) dX12_passesSign_10 (by decide) rfl (fun hc => ?_) (fun hc => ?_)
  · have h := h.1 hc
    refine z_aload_n (pc' := 16) dX12_passesSign_15 rfl rfl ?_
    refine z_dup (pc' := 17) dX12_passesSign_16 rfl rfl ?_
    obtain ⟨h1, h⟩ := h
    refine z_getI (ci := 13) (kf := 4) (pc' := 20) dX12_passesSign_17 kX12_187 (Or.inl rfl) (by decide) (by decide) rfl rfl h1 ?_
    refine z_iconst (x := 1) (pc' := 21) dX12_passesSign_20 (by decide) rfl ?_
    refine z_iadd (pc' := 22) dX12_passesSign_21 rfl rfl ?_
    obtain ⟨h1, h⟩ := h
    obtain ⟨G6, hG⟩ : ∃ z, z = zsi G4 q0 4 ((ziv G4 q0 4) + 1) := ⟨_, rfl⟩
    have h := h _ hG
    refine z_putI (ci := 13) (kf := 4) (pc' := 25) dX12_passesSign_22 kX12_187 (Or.inl rfl) (by decide) (by decide) rfl (Or.inl rfl) rfl h1 (zok_int _) ?_
    refine z_st hG ?_
    refine z_iconst (x := 1) (pc' := 26) dX12_passesSign_25 (by decide) rfl ?_
    exact z_zret (ty := .boolean) dX12_passesSign_26 rfl (by decide) h
  · have h := h.2 hc
    refine z_iconst (x := 0) (pc' := 14) dX12_passesSign_13 (by decide) rfl ?_
    exact z_zret (ty := .boolean) dX12_passesSign_14 rfl (by decide) h
def wp_X12_person_0 (E : ZE) (l : Launch) (d b : Nat) (G0 : ZG) (Q : ZQ) (k : Nat) (q0 : Nat) (x1 : Int32) (x2 : Int32) (x3 : Int32) (x4 : Int32) (x5 : Int32) (x6 : Int32) (x7 : Int32) (G : ZG) : Prop :=
  zob G q0 13 ∧
  ∀ G1, G1 = zsi G q0 0 0 →
  zob G1 q0 13 ∧
  xcI E l mX12_in d [.int x1, .int (-40000), .int (ziv G1 q0 1)] G1 k (fun X G9 => Q (.inr X) G9) (fun y2 G3 k4 =>
  ((y2 = 0 →
    zW E l mX12_person d b G0 Q k4 64 [some (.ref q0), some (.int x1), some (.int x2), some (.int x3), some (.int x4), some (.int x5), some (.int x6), some (.int x7)] [.int 1, .ref q0] G3) ∧
  (¬ (y2 = 0) →
    xcI E l mX12_noFace d [.int x3] G3 k4 (fun X G9 => Q (.inr X) G9) (fun y5 G6 k7 =>
    ((¬ y5 = 0 →
      zW E l mX12_person d b G0 Q k7 64 [some (.ref q0), some (.int x1), some (.int x2), some (.int x3), some (.int x4), some (.int x5), some (.int x6), some (.int x7)] [.int 1, .ref q0] G6) ∧
    (¬ (¬ y5 = 0) →
      xcI E l mX12_noFace d [.int x4] G6 k7 (fun X G9 => Q (.inr X) G9) (fun y8 G9 k10 =>
      ((¬ y8 = 0 →
        zW E l mX12_person d b G0 Q k10 64 [some (.ref q0), some (.int x1), some (.int x2), some (.int x3), some (.int x4), some (.int x5), some (.int x6), some (.int x7)] [.int 1, .ref q0] G9) ∧
      (¬ (¬ y8 = 0) →
        xcI E l mX12_noFace d [.int x5] G9 k10 (fun X G9 => Q (.inr X) G9) (fun y11 G12 k13 =>
        ((¬ y11 = 0 →
          zW E l mX12_person d b G0 Q k13 64 [some (.ref q0), some (.int x1), some (.int x2), some (.int x3), some (.int x4), some (.int x5), some (.int x6), some (.int x7)] [.int 1, .ref q0] G12) ∧
        (¬ (¬ y11 = 0) →
          xcI E l mX12_noFace d [.int x6] G12 k13 (fun X G9 => Q (.inr X) G9) (fun y14 G15 k16 =>
          ((¬ y14 = 0 →
            zW E l mX12_person d b G0 Q k16 64 [some (.ref q0), some (.int x1), some (.int x2), some (.int x3), some (.int x4), some (.int x5), some (.int x6), some (.int x7)] [.int 1, .ref q0] G15) ∧
          (¬ (¬ y14 = 0) →
            xcI E l mX12_noFace d [.int x7] G15 k16 (fun X G9 => Q (.inr X) G9) (fun y17 G18 k19 =>
            ((y17 = 0 →
              zW E l mX12_person d b G0 Q k19 64 [some (.ref q0), some (.int x1), some (.int x2), some (.int x3), some (.int x4), some (.int x5), some (.int x6), some (.int x7)] [.int 0, .ref q0] G18) ∧
            (¬ (y17 = 0) →
              zW E l mX12_person d b G0 Q k19 64 [some (.ref q0), some (.int x1), some (.int x2), some (.int x3), some (.int x4), some (.int x5), some (.int x6), some (.int x7)] [.int 1, .ref q0] G18))))))))))))))))))
theorem wpt_X12_person_0 {E : ZE} {l : Launch} {d b : Nat} {G0 : ZG} {Q : ZQ} {k : Nat} {q0 : Nat} {x1 : Int32} {x2 : Int32} {x3 : Int32} {x4 : Int32} {x5 : Int32} {x6 : Int32} {x7 : Int32} {G : ZG} (h : wp_X12_person_0 E l d b G0 Q k q0 x1 x2 x3 x4 x5 x6 x7 G) : zW E l mX12_person d b G0 Q k 0 [some (.ref q0), some (.int x1), some (.int x2), some (.int x3), some (.int x4), some (.int x5), some (.int x6), some (.int x7)] [] G := by
  unfold wp_X12_person_0 at h
  refine z_aload_n (pc' := 1) dX12_person_0 rfl rfl ?_
  refine z_iconst (x := 0) (pc' := 2) dX12_person_1 (by decide) rfl ?_
  obtain ⟨h1, h⟩ := h
  obtain ⟨G1, hG⟩ : ∃ z, z = zsi G q0 0 0 := ⟨_, rfl⟩
  have h := h _ hG
  refine z_putI (ci := 13) (kf := 0) (pc' := 5) dX12_person_2 kX12_178 (Or.inl rfl) (by decide) (by decide) rfl (Or.inl rfl) rfl h1 (zok_int _) ?_
  refine z_st hG ?_
  refine z_aload_n (pc' := 6) dX12_person_5 rfl rfl ?_
  refine z_iload_n (pc' := 7) dX12_person_6 rfl rfl ?_
  refine z_ldcw (x := (-40000)) (pc' := 10) dX12_person_7 kX12_375 rfl ?_
  refine z_aload_n (pc' := 11) dX12_person_10 rfl rfl ?_
  obtain ⟨h1, h⟩ := h
  refine z_getI (ci := 13) (kf := 1) (pc' := 14) dX12_person_11 kX12_314 (Or.inl rfl) (by decide) (by decide) rfl rfl h1 ?_
  obtain ⟨d1, b1, Qz, hm, hdd, hb, hkx, hk⟩ := h
  refine z_callS (Y := mX12_in) (n := 3) (as := [.int x1, .int (-40000), .int (ziv G1 q0 1)]) (st := [.ref q0]) (pc' := 17) hm dX12_person_14 kX12_317 sX12_in rfl rfl hdd hb (Nat.le_of_ble_eq_true rfl) (fun r G3 hz => ?_) hkx
  obtain ⟨y2, rfl, h⟩ := hk r G3 hz
  refine z_if_eq (pt := 59) (pc' := 20) dX12_person_17 (by decide) rfl (fun hc => ?_) (fun hc => ?_)
  · have h := h.1 hc
    refine z_iconst (x := 1) (pc' := 60) dX12_person_59 (by decide) rfl ?_
    refine z_goto (pc' := 64) dX12_person_60 (by decide) ?_
    exact z_dr (ls' := [some (.ref q0), some (.int x1), some (.int x2), some (.int x3), some (.int x4), some (.int x5), some (.int x6), some (.int x7)]) ⟨rfl, rfl, rfl, rfl, rfl, rfl, rfl, rfl, trivial⟩ h
  · have h := h.2 hc
    refine z_iload_n (pc' := 21) dX12_person_20 rfl rfl ?_
    obtain ⟨d1, b1, Qz, hm, hdd, hb, hkx, hk⟩ := h
    refine z_callS (Y := mX12_noFace) (n := 1) (as := [.int x3]) (st := [.ref q0]) (pc' := 24) hm dX12_person_21 kX12_376 sX12_noFace rfl rfl hdd hb (Nat.le_of_ble_eq_true rfl) (fun r G6 hz => ?_) hkx
    obtain ⟨y5, rfl, h⟩ := hk r G6 hz
    refine z_if_ne (pt := 59) (pc' := 27) dX12_person_24 (by decide) rfl (fun hc => ?_) (fun hc => ?_)
    · have h := h.1 hc
      refine z_iconst (x := 1) (pc' := 60) dX12_person_59 (by decide) rfl ?_
      refine z_goto (pc' := 64) dX12_person_60 (by decide) ?_
      exact z_dr (ls' := [some (.ref q0), some (.int x1), some (.int x2), some (.int x3), some (.int x4), some (.int x5), some (.int x6), some (.int x7)]) ⟨rfl, rfl, rfl, rfl, rfl, rfl, rfl, rfl, trivial⟩ h
    · have h := h.2 hc
      refine z_iload (pc' := 29) dX12_person_27 rfl rfl ?_
      obtain ⟨d1, b1, Qz, hm, hdd, hb, hkx, hk⟩ := h
      refine z_callS (Y := mX12_noFace) (n := 1) (as := [.int x4]) (st := [.ref q0]) (pc' := 32) hm dX12_person_29 kX12_376 sX12_noFace rfl rfl hdd hb (Nat.le_of_ble_eq_true rfl) (fun r G9 hz => ?_) hkx
      obtain ⟨y8, rfl, h⟩ := hk r G9 hz
      refine z_if_ne (pt := 59) (pc' := 35) dX12_person_32 (by decide) rfl (fun hc => ?_) (fun hc => ?_)
      · have h := h.1 hc
        refine z_iconst (x := 1) (pc' := 60) dX12_person_59 (by decide) rfl ?_
        refine z_goto (pc' := 64) dX12_person_60 (by decide) ?_
        exact z_dr (ls' := [some (.ref q0), some (.int x1), some (.int x2), some (.int x3), some (.int x4), some (.int x5), some (.int x6), some (.int x7)]) ⟨rfl, rfl, rfl, rfl, rfl, rfl, rfl, rfl, trivial⟩ h
      · have h := h.2 hc
        refine z_iload (pc' := 37) dX12_person_35 rfl rfl ?_
        obtain ⟨d1, b1, Qz, hm, hdd, hb, hkx, hk⟩ := h
        refine z_callS (Y := mX12_noFace) (n := 1) (as := [.int x5]) (st := [.ref q0]) (pc' := 40) hm dX12_person_37 kX12_376 sX12_noFace rfl rfl hdd hb (Nat.le_of_ble_eq_true rfl) (fun r G12 hz => ?_) hkx
        obtain ⟨y11, rfl, h⟩ := hk r G12 hz
        refine z_if_ne (pt := 59) (pc' := 43) dX12_person_40 (by decide) rfl (fun hc => ?_) (fun hc => ?_)
        · have h := h.1 hc
          refine z_iconst (x := 1) (pc' := 60) dX12_person_59 (by decide) rfl ?_
          refine z_goto (pc' := 64) dX12_person_60 (by decide) ?_
          exact z_dr (ls' := [some (.ref q0), some (.int x1), some (.int x2), some (.int x3), some (.int x4), some (.int x5), some (.int x6), some (.int x7)]) ⟨rfl, rfl, rfl, rfl, rfl, rfl, rfl, rfl, trivial⟩ h
        · have h := h.2 hc
          refine z_iload (pc' := 45) dX12_person_43 rfl rfl ?_
          obtain ⟨d1, b1, Qz, hm, hdd, hb, hkx, hk⟩ := h
          refine z_callS (Y := mX12_noFace) (n := 1) (as := [.int x6]) (st := [.ref q0]) (pc' := 48) hm dX12_person_45 kX12_376 sX12_noFace rfl rfl hdd hb (Nat.le_of_ble_eq_true rfl) (fun r G15 hz => ?_) hkx
          obtain ⟨y14, rfl, h⟩ := hk r G15 hz
          refine z_if_ne (pt := 59) (pc' := 51) dX12_person_48 (by decide) rfl (fun hc => ?_) (fun hc => ?_)
          · have h := h.1 hc
            refine z_iconst (x := 1) (pc' := 60) dX12_person_59 (by decide) rfl ?_
            refine z_goto (pc' := 64) dX12_person_60 (by decide) ?_
            exact z_dr (ls' := [some (.ref q0), some (.int x1), some (.int x2), some (.int x3), some (.int x4), some (.int x5), some (.int x6), some (.int x7)]) ⟨rfl, rfl, rfl, rfl, rfl, rfl, rfl, rfl, trivial⟩ h
          · have h := h.2 hc
            refine z_iload (pc' := 53) dX12_person_51 rfl rfl ?_
            obtain ⟨d1, b1, Qz, hm, hdd, hb, hkx, hk⟩ := h
            refine z_callS (Y := mX12_noFace) (n := 1) (as := [.int x7]) (st := [.ref q0]) (pc' := 56) hm dX12_person_53 kX12_376 sX12_noFace rfl rfl hdd hb (Nat.le_of_ble_eq_true rfl) (fun r G18 hz => ?_) hkx
            obtain ⟨y17, rfl, h⟩ := hk r G18 hz
            refine z_if_eq (pt := 63) (pc' := 59) dX12_person_56 (by decide) rfl (fun hc => ?_) (fun hc => ?_)
            · have h := h.1 hc
              refine z_iconst (x := 0) (pc' := 64) dX12_person_63 (by decide) rfl ?_
              exact z_dr (ls' := [some (.ref q0), some (.int x1), some (.int x2), some (.int x3), some (.int x4), some (.int x5), some (.int x6), some (.int x7)]) ⟨rfl, rfl, rfl, rfl, rfl, rfl, rfl, rfl, trivial⟩ h
            · have h := h.2 hc
              refine z_iconst (x := 1) (pc' := 60) dX12_person_59 (by decide) rfl ?_
              refine z_goto (pc' := 64) dX12_person_60 (by decide) ?_
              exact z_dr (ls' := [some (.ref q0), some (.int x1), some (.int x2), some (.int x3), some (.int x4), some (.int x5), some (.int x6), some (.int x7)]) ⟨rfl, rfl, rfl, rfl, rfl, rfl, rfl, rfl, trivial⟩ h
def wp_X12_person_64 (E : ZE) (l : Launch) (d b : Nat) (G0 : ZG) (Q : ZQ) (k : Nat) (q0 : Nat) (x1 : Int32) (x2 : Int32) (x3 : Int32) (x4 : Int32) (x5 : Int32) (x6 : Int32) (x7 : Int32) (s0 : Int32) (p1 : Nat) (G : ZG) : Prop :=
  zob G p1 13 ∧
  xcI E l mX12_throwsIf d [.ref p1, .int s0, .int 1] G k (fun X G9 => Q (.inr X) G9) (fun y1 G2 k3 =>
  ((¬ y1 = 0 →
    Q (.inl (some (.int 0))) G2) ∧
  (¬ (¬ y1 = 0) →
    zob G2 q0 13 ∧
    ((¬ (ziv G2 q0 34) = 80 →
      zW E l mX12_person d b G0 Q k3 86 [some (.ref q0), some (.int x1), some (.int x2), some (.int x3), some (.int x4), some (.int x5), some (.int x6), some (.int x7)] [.int 0, .ref q0] G2) ∧
    (¬ (¬ (ziv G2 q0 34) = 80) →
      zW E l mX12_person d b G0 Q k3 86 [some (.ref q0), some (.int x1), some (.int x2), some (.int x3), some (.int x4), some (.int x5), some (.int x6), some (.int x7)] [.int 1, .ref q0] G2)))))
theorem wpt_X12_person_64 {E : ZE} {l : Launch} {d b : Nat} {G0 : ZG} {Q : ZQ} {k : Nat} {q0 : Nat} {x1 : Int32} {x2 : Int32} {x3 : Int32} {x4 : Int32} {x5 : Int32} {x6 : Int32} {x7 : Int32} {s0 : Int32} {p1 : Nat} {G : ZG} (h : wp_X12_person_64 E l d b G0 Q k q0 x1 x2 x3 x4 x5 x6 x7 s0 p1 G) : zW E l mX12_person d b G0 Q k 64 [some (.ref q0), some (.int x1), some (.int x2), some (.int x3), some (.int x4), some (.int x5), some (.int x6), some (.int x7)] [.int s0, .ref p1] G := by
  unfold wp_X12_person_64 at h
  refine z_iconst (x := 1) (pc' := 65) dX12_person_64 (by decide) rfl ?_
  obtain ⟨h1, h⟩ := h
  obtain ⟨d1, b1, Qz, hm, hdd, hb, hkx, hk⟩ := h
  refine z_callV (Y := mX12_throwsIf) (n := 2) (as := [.int s0, .int 1]) (st := []) (pc' := 68) (ci := 13) (q := p1) hm dX12_person_65 kX12_321 vX12_throwsIf rfl rfl (by decide) rfl h1 hdd hb (Nat.le_of_ble_eq_true rfl) (fun r G2 hz => ?_) hkx
  obtain ⟨y1, rfl, h⟩ := hk r G2 hz
  refine z_if_ne (pt := 93) (pc' := 71) dX12_person_68 (by decide) rfl (fun hc => ?_) (fun hc => ?_)
  · have h := h.1 hc
    refine z_iconst (x := 0) (pc' := 94) dX12_person_93 (by decide) rfl ?_
    exact z_iret dX12_person_94 rfl h
  · have h := h.2 hc
    refine z_aload_n (pc' := 72) dX12_person_71 rfl rfl ?_
    refine z_aload_n (pc' := 73) dX12_person_72 rfl rfl ?_
    obtain ⟨h1, h⟩ := h
    refine z_getI (ci := 13) (kf := 34) (pc' := 76) dX12_person_73 kX12_372 (Or.inl rfl) (by decide) (by decide) rfl rfl h1 ?_
    refine z_bipush (x := 80) (pc' := 78) dX12_person_76 (by decide) rfl ?_
    refine z_icmp_ne (pt := 85) (pc' := 81) dX12_person_78 (by decide) rfl (fun hc => ?_) (fun hc => ?_)
    · have h := h.1 hc
      refine z_iconst (x := 0) (pc' := 86) dX12_person_85 (by decide) rfl ?_
      exact z_dr (ls' := [some (.ref q0), some (.int x1), some (.int x2), some (.int x3), some (.int x4), some (.int x5), some (.int x6), some (.int x7)]) ⟨rfl, rfl, rfl, rfl, rfl, rfl, rfl, rfl, trivial⟩ h
    · have h := h.2 hc
      refine z_iconst (x := 1) (pc' := 82) dX12_person_81 (by decide) rfl ?_
      refine z_goto (pc' := 86) dX12_person_82 (by decide) ?_
      exact z_dr (ls' := [some (.ref q0), some (.int x1), some (.int x2), some (.int x3), some (.int x4), some (.int x5), some (.int x6), some (.int x7)]) ⟨rfl, rfl, rfl, rfl, rfl, rfl, rfl, rfl, trivial⟩ h
def wp_X12_person_86 (E : ZE) (l : Launch) (d b : Nat) (G0 : ZG) (Q : ZQ) (k : Nat) (q0 : Nat) (x1 : Int32) (x2 : Int32) (x3 : Int32) (x4 : Int32) (x5 : Int32) (x6 : Int32) (x7 : Int32) (s0 : Int32) (p1 : Nat) (G : ZG) : Prop :=
  zob G p1 13 ∧
  xcI E l mX12_throwsIf d [.ref p1, .int s0, .int 2] G k (fun X G9 => Q (.inr X) G9) (fun y1 G2 k3 =>
  ((y1 = 0 →
    zob G2 q0 13 ∧
    zob G2 q0 13 ∧
    zar G2 (zrv G2 q0 29) 0 ∧ vp_in (ziv G2 q0 34) (zln G2 (zrv G2 q0 29)) ∧
    ∀ G4, G4 = zsi G2 (zrv G2 q0 29) (ziv G2 q0 34).toNatClampNeg x1 →
    zob G4 q0 13 ∧
    zob G4 q0 13 ∧
    zar G4 (zrv G4 q0 30) 2 ∧ vp_in (ziv G4 q0 34) (zln G4 (zrv G4 q0 30)) ∧
    zok .boolean x2 ∧
    ∀ G5, G5 = zsi G4 (zrv G4 q0 30) (ziv G4 q0 34).toNatClampNeg x2 →
    zob G5 q0 13 ∧
    zob G5 q0 13 ∧
    zar G5 (zrv G5 q0 31) 0 ∧ vp_in (5 * (ziv G5 q0 34)) (zln G5 (zrv G5 q0 31)) ∧
    ∀ G6, G6 = zsi G5 (zrv G5 q0 31) (5 * (ziv G5 q0 34)).toNatClampNeg x3 →
    zob G6 q0 13 ∧
    zob G6 q0 13 ∧
    zar G6 (zrv G6 q0 31) 0 ∧ vp_in ((5 * (ziv G6 q0 34)) + 1) (zln G6 (zrv G6 q0 31)) ∧
    ∀ G7, G7 = zsi G6 (zrv G6 q0 31) ((5 * (ziv G6 q0 34)) + 1).toNatClampNeg x4 →
    zob G7 q0 13 ∧
    zob G7 q0 13 ∧
    zar G7 (zrv G7 q0 31) 0 ∧ vp_in ((5 * (ziv G7 q0 34)) + 2) (zln G7 (zrv G7 q0 31)) ∧
    ∀ G8, G8 = zsi G7 (zrv G7 q0 31) ((5 * (ziv G7 q0 34)) + 2).toNatClampNeg x5 →
    zob G8 q0 13 ∧
    zob G8 q0 13 ∧
    zar G8 (zrv G8 q0 31) 0 ∧ vp_in ((5 * (ziv G8 q0 34)) + 3) (zln G8 (zrv G8 q0 31)) ∧
    ∀ G9, G9 = zsi G8 (zrv G8 q0 31) ((5 * (ziv G8 q0 34)) + 3).toNatClampNeg x6 →
    zob G9 q0 13 ∧
    zob G9 q0 13 ∧
    zar G9 (zrv G9 q0 31) 0 ∧ vp_in ((5 * (ziv G9 q0 34)) + 4) (zln G9 (zrv G9 q0 31)) ∧
    ∀ G10, G10 = zsi G9 (zrv G9 q0 31) ((5 * (ziv G9 q0 34)) + 4).toNatClampNeg x7 →
    zob G10 q0 13 ∧
    zob G10 q0 13 ∧
    ∀ G11, G11 = zsi G10 q0 34 ((ziv G10 q0 34) + 1) →
    zob G11 q0 13 ∧
    Q (.inl (some (.int ((ziv G11 q0 34) - 1)))) G11) ∧
  (¬ (y1 = 0) →
    Q (.inl (some (.int 0))) G2)))
theorem wpt_X12_person_86 {E : ZE} {l : Launch} {d b : Nat} {G0 : ZG} {Q : ZQ} {k : Nat} {q0 : Nat} {x1 : Int32} {x2 : Int32} {x3 : Int32} {x4 : Int32} {x5 : Int32} {x6 : Int32} {x7 : Int32} {s0 : Int32} {p1 : Nat} {G : ZG} (h : wp_X12_person_86 E l d b G0 Q k q0 x1 x2 x3 x4 x5 x6 x7 s0 p1 G) : zW E l mX12_person d b G0 Q k 86 [some (.ref q0), some (.int x1), some (.int x2), some (.int x3), some (.int x4), some (.int x5), some (.int x6), some (.int x7)] [.int s0, .ref p1] G := by
  unfold wp_X12_person_86 at h
  refine z_iconst (x := 2) (pc' := 87) dX12_person_86 (by decide) rfl ?_
  obtain ⟨h1, h⟩ := h
  obtain ⟨d1, b1, Qz, hm, hdd, hb, hkx, hk⟩ := h
  refine z_callV (Y := mX12_throwsIf) (n := 2) (as := [.int s0, .int 2]) (st := []) (pc' := 90) (ci := 13) (q := p1) hm dX12_person_87 kX12_321 vX12_throwsIf rfl rfl (by decide) rfl h1 hdd hb (Nat.le_of_ble_eq_true rfl) (fun r G2 hz => ?_) hkx
  obtain ⟨y1, rfl, h⟩ := hk r G2 hz
  refine z_if_eq (pt := 95) (pc' := 93) dX12_person_90 (by decide) rfl (fun hc => ?_) (fun hc => ?_)
  · have h := h.1 hc
    refine z_aload_n (pc' := 96) dX12_person_95 rfl rfl ?_
    obtain ⟨h1, h⟩ := h
    refine z_getR (ci := 13) (kf := 29) (pc' := 99) dX12_person_96 kX12_55 (Or.inl rfl) (by decide) (by decide) rfl rfl h1 ?_
    refine z_aload_n (pc' := 100) dX12_person_99 rfl rfl ?_
    obtain ⟨h1, h⟩ := h
    refine z_getI (ci := 13) (kf := 34) (pc' := 103) dX12_person_100 kX12_372 (Or.inl rfl) (by decide) (by decide) rfl rfl h1 ?_
    refine z_iload_n (pc' := 104) dX12_person_103 rfl rfl ?_
    obtain ⟨h1, h2, h⟩ := h
    obtain ⟨G4, hG⟩ : ∃ z, z = zsi G2 (zrv G2 q0 29) (ziv G2 q0 34).toNatClampNeg x1 := ⟨_, rfl⟩
    have h := h _ hG
    refine z_iast (pc' := 105) dX12_person_104 rfl h1 h2  ?_
    refine z_st hG ?_
    refine z_aload_n (pc' := 106) dX12_person_105 rfl rfl ?_
    obtain ⟨h1, h⟩ := h
    refine z_getR (ci := 13) (kf := 30) (pc' := 109) dX12_person_106 kX12_58 (Or.inl rfl) (by decide) (by decide) rfl rfl h1 ?_
    refine z_aload_n (pc' := 110) dX12_person_109 rfl rfl ?_
    obtain ⟨h1, h⟩ := h
    refine z_getI (ci := 13) (kf := 34) (pc' := 113) dX12_person_110 kX12_372 (Or.inl rfl) (by decide) (by decide) rfl rfl h1 ?_
    refine z_iload_n (pc' := 114) dX12_person_113 rfl rfl ?_
    obtain ⟨h1, h2, h⟩ := h
    obtain ⟨h3, h⟩ := h
    obtain ⟨G5, hG⟩ : ∃ z, z = zsi G4 (zrv G4 q0 30) (ziv G4 q0 34).toNatClampNeg x2 := ⟨_, rfl⟩
    have h := h _ hG
    refine z_zast (pc' := 115) dX12_person_114 rfl h1 h2 h3 ?_
    refine z_st hG ?_
    refine z_aload_n (pc' := 116) dX12_person_115 rfl rfl ?_
    obtain ⟨h1, h⟩ := h
    refine z_getR (ci := 13) (kf := 31) (pc' := 119) dX12_person_116 kX12_61 (Or.inl rfl) (by decide) (by decide) rfl rfl h1 ?_
    refine z_iconst (x := 5) (pc' := 120) dX12_person_119 (by decide) rfl ?_
    refine z_aload_n (pc' := 121) dX12_person_120 rfl rfl ?_
    obtain ⟨h1, h⟩ := h
    refine z_getI (ci := 13) (kf := 34) (pc' := 124) dX12_person_121 kX12_372 (Or.inl rfl) (by decide) (by decide) rfl rfl h1 ?_
    refine z_imul (pc' := 125) dX12_person_124 rfl rfl ?_
    refine z_iload_n (pc' := 126) dX12_person_125 rfl rfl ?_
    obtain ⟨h1, h2, h⟩ := h
    obtain ⟨G6, hG⟩ : ∃ z, z = zsi G5 (zrv G5 q0 31) (5 * (ziv G5 q0 34)).toNatClampNeg x3 := ⟨_, rfl⟩
    have h := h _ hG
    refine z_iast (pc' := 127) dX12_person_126 rfl h1 h2  ?_
    refine z_st hG ?_
    refine z_aload_n (pc' := 128) dX12_person_127 rfl rfl ?_
    obtain ⟨h1, h⟩ := h
    refine z_getR (ci := 13) (kf := 31) (pc' := 131) dX12_person_128 kX12_61 (Or.inl rfl) (by decide) (by decide) rfl rfl h1 ?_
    refine z_iconst (x := 5) (pc' := 132) dX12_person_131 (by decide) rfl ?_
    refine z_aload_n (pc' := 133) dX12_person_132 rfl rfl ?_
    obtain ⟨h1, h⟩ := h
    refine z_getI (ci := 13) (kf := 34) (pc' := 136) dX12_person_133 kX12_372 (Or.inl rfl) (by decide) (by decide) rfl rfl h1 ?_
    refine z_imul (pc' := 137) dX12_person_136 rfl rfl ?_
    refine z_iconst (x := 1) (pc' := 138) dX12_person_137 (by decide) rfl ?_
    refine z_iadd (pc' := 139) dX12_person_138 rfl rfl ?_
    refine z_iload (pc' := 141) dX12_person_139 rfl rfl ?_
    obtain ⟨h1, h2, h⟩ := h
    obtain ⟨G7, hG⟩ : ∃ z, z = zsi G6 (zrv G6 q0 31) ((5 * (ziv G6 q0 34)) + 1).toNatClampNeg x4 := ⟨_, rfl⟩
    have h := h _ hG
    refine z_iast (pc' := 142) dX12_person_141 rfl h1 h2  ?_
    refine z_st hG ?_
    refine z_aload_n (pc' := 143) dX12_person_142 rfl rfl ?_
    obtain ⟨h1, h⟩ := h
    refine z_getR (ci := 13) (kf := 31) (pc' := 146) dX12_person_143 kX12_61 (Or.inl rfl) (by decide) (by decide) rfl rfl h1 ?_
    refine z_iconst (x := 5) (pc' := 147) dX12_person_146 (by decide) rfl ?_
    refine z_aload_n (pc' := 148) dX12_person_147 rfl rfl ?_
    obtain ⟨h1, h⟩ := h
    refine z_getI (ci := 13) (kf := 34) (pc' := 151) dX12_person_148 kX12_372 (Or.inl rfl) (by decide) (by decide) rfl rfl h1 ?_
    refine z_imul (pc' := 152) dX12_person_151 rfl rfl ?_
    refine z_iconst (x := 2) (pc' := 153) dX12_person_152 (by decide) rfl ?_
    refine z_iadd (pc' := 154) dX12_person_153 rfl rfl ?_
    refine z_iload (pc' := 156) dX12_person_154 rfl rfl ?_
    obtain ⟨h1, h2, h⟩ := h
    obtain ⟨G8, hG⟩ : ∃ z, z = zsi G7 (zrv G7 q0 31) ((5 * (ziv G7 q0 34)) + 2).toNatClampNeg x5 := ⟨_, rfl⟩
    have h := h _ hG
    refine z_iast (pc' := 157) dX12_person_156 rfl h1 h2  ?_
    refine z_st hG ?_
    refine z_aload_n (pc' := 158) dX12_person_157 rfl rfl ?_
    obtain ⟨h1, h⟩ := h
    refine z_getR (ci := 13) (kf := 31) (pc' := 161) dX12_person_158 kX12_61 (Or.inl rfl) (by decide) (by decide) rfl rfl h1 ?_
    refine z_iconst (x := 5) (pc' := 162) dX12_person_161 (by decide) rfl ?_
    refine z_aload_n (pc' := 163) dX12_person_162 rfl rfl ?_
    obtain ⟨h1, h⟩ := h
    refine z_getI (ci := 13) (kf := 34) (pc' := 166) dX12_person_163 kX12_372 (Or.inl rfl) (by decide) (by decide) rfl rfl h1 ?_
    refine z_imul (pc' := 167) dX12_person_166 rfl rfl ?_
    refine z_iconst (x := 3) (pc' := 168) dX12_person_167 (by decide) rfl ?_
    refine z_iadd (pc' := 169) dX12_person_168 rfl rfl ?_
    refine z_iload (pc' := 171) dX12_person_169 rfl rfl ?_
    obtain ⟨h1, h2, h⟩ := h
    obtain ⟨G9, hG⟩ : ∃ z, z = zsi G8 (zrv G8 q0 31) ((5 * (ziv G8 q0 34)) + 3).toNatClampNeg x6 := ⟨_, rfl⟩
    have h := h _ hG
    refine z_iast (pc' := 172) dX12_person_171 rfl h1 h2  ?_
    refine z_st hG ?_
    refine z_aload_n (pc' := 173) dX12_person_172 rfl rfl ?_
    obtain ⟨h1, h⟩ := h
    refine z_getR (ci := 13) (kf := 31) (pc' := 176) dX12_person_173 kX12_61 (Or.inl rfl) (by decide) (by decide) rfl rfl h1 ?_
    refine z_iconst (x := 5) (pc' := 177) dX12_person_176 (by decide) rfl ?_
    refine z_aload_n (pc' := 178) dX12_person_177 rfl rfl ?_
    obtain ⟨h1, h⟩ := h
    refine z_getI (ci := 13) (kf := 34) (pc' := 181) dX12_person_178 kX12_372 (Or.inl rfl) (by decide) (by decide) rfl rfl h1 ?_
    refine z_imul (pc' := 182) dX12_person_181 rfl rfl ?_
    refine z_iconst (x := 4) (pc' := 183) dX12_person_182 (by decide) rfl ?_
    refine z_iadd (pc' := 184) dX12_person_183 rfl rfl ?_
    refine z_iload (pc' := 186) dX12_person_184 rfl rfl ?_
    obtain ⟨h1, h2, h⟩ := h
    obtain ⟨G10, hG⟩ : ∃ z, z = zsi G9 (zrv G9 q0 31) ((5 * (ziv G9 q0 34)) + 4).toNatClampNeg x7 := ⟨_, rfl⟩
    have h := h _ hG
    refine z_iast (pc' := 187) dX12_person_186 rfl h1 h2  ?_
    refine z_st hG ?_
    refine z_aload_n (pc' := 188) dX12_person_187 rfl rfl ?_
    refine z_dup (pc' := 189) dX12_person_188 rfl rfl ?_
    obtain ⟨h1, h⟩ := h
    refine z_getI (ci := 13) (kf := 34) (pc' := 192) dX12_person_189 kX12_372 (Or.inl rfl) (by decide) (by decide) rfl rfl h1 ?_
    refine z_iconst (x := 1) (pc' := 193) dX12_person_192 (by decide) rfl ?_
    refine z_iadd (pc' := 194) dX12_person_193 rfl rfl ?_
    obtain ⟨h1, h⟩ := h
    obtain ⟨G11, hG⟩ : ∃ z, z = zsi G10 q0 34 ((ziv G10 q0 34) + 1) := ⟨_, rfl⟩
    have h := h _ hG
    refine z_putI (ci := 13) (kf := 34) (pc' := 197) dX12_person_194 kX12_372 (Or.inl rfl) (by decide) (by decide) rfl (Or.inl rfl) rfl h1 (zok_int _) ?_
    refine z_st hG ?_
    refine z_aload_n (pc' := 198) dX12_person_197 rfl rfl ?_
    obtain ⟨h1, h⟩ := h
    refine z_getI (ci := 13) (kf := 34) (pc' := 201) dX12_person_198 kX12_372 (Or.inl rfl) (by decide) (by decide) rfl rfl h1 ?_
    refine z_iconst (x := 1) (pc' := 202) dX12_person_201 (by decide) rfl ?_
    refine z_isub (pc' := 203) dX12_person_202 rfl rfl ?_
    exact z_iret dX12_person_203 rfl h
  · have h := h.2 hc
    refine z_iconst (x := 0) (pc' := 94) dX12_person_93 (by decide) rfl ?_
    exact z_iret dX12_person_94 rfl h
def wp_X12_prints_0 (E : ZE) (l : Launch) (d b : Nat) (G0 : ZG) (Q : ZQ) (k : Nat) (q0 : Nat) (x1 : Int32) (G : ZG) : Prop :=
  zob G q0 13 ∧
  (zar G (zrv G q0 53) 0 ∨ zrd G (zrv G q0 53) .int) ∧ vp_in x1 (zln G (zrv G q0 53)) ∧
  zW E l mX12_prints d b G0 Q k 9 [some (.ref q0), some (.int x1), some (.int (ziv G (zrv G q0 53) x1.toNatClampNeg)), some (.int 0)] [] G
theorem wpt_X12_prints_0 {E : ZE} {l : Launch} {d b : Nat} {G0 : ZG} {Q : ZQ} {k : Nat} {q0 : Nat} {x1 : Int32} {G : ZG} (h : wp_X12_prints_0 E l d b G0 Q k q0 x1 G) : zW E l mX12_prints d b G0 Q k 0 [some (.ref q0), some (.int x1), none, none] [] G := by
  unfold wp_X12_prints_0 at h
  refine z_aload_n (pc' := 1) dX12_prints_0 rfl rfl ?_
  obtain ⟨h1, h⟩ := h
  refine z_getR (ci := 13) (kf := 53) (pc' := 4) dX12_prints_1 kX12_112 (Or.inl rfl) (by decide) (by decide) rfl rfl h1 ?_
  refine z_iload_n (pc' := 5) dX12_prints_4 rfl rfl ?_
  obtain ⟨h1, h2, h⟩ := h
  refine z_iald (pc' := 6) dX12_prints_5 rfl h1 h2 ?_
  refine z_istore_n (pc' := 7) dX12_prints_6 (by decide) rfl ?_
  refine z_iconst (x := 0) (pc' := 8) dX12_prints_7 (by decide) rfl ?_
  refine z_istore_n (pc' := 9) dX12_prints_8 (by decide) rfl ?_
  exact z_dr (ls' := [some (.ref q0), some (.int x1), some (.int (ziv G (zrv G q0 53) x1.toNatClampNeg)), some (.int 0)]) ⟨rfl, rfl, rfl, rfl, trivial⟩ h
def wp_X12_prints_9 (E : ZE) (l : Launch) (d b : Nat) (G0 : ZG) (Q : ZQ) (k : Nat) (q0 : Nat) (x1 : Int32) (x2 : Int32) (x3 : Int32) (G : ZG) : Prop :=
  zob G q0 13 ∧
  (((ziv G q0 71) ≤ x3 →
    zW E l mX12_prints d b G0 Q k 79 [some (.ref q0), some (.int x1), some (.int x2), none] [] G) ∧
  (¬ ((ziv G q0 71) ≤ x3) →
    zob G q0 13 ∧
    (zar G (zrv G q0 54) 0 ∨ zrd G (zrv G q0 54) .int) ∧ vp_in x1 (zln G (zrv G q0 54)) ∧
    (((ziv G (zrv G q0 54) x1.toNatClampNeg) = 3 →
      zW E l mX12_prints d b G0 Q k 79 [some (.ref q0), some (.int x1), some (.int x2), none] [] G) ∧
    (¬ ((ziv G (zrv G q0 54) x1.toNatClampNeg) = 3) →
      zob G q0 13 ∧
      (zar G (zrv G q0 67) 0 ∨ zrd G (zrv G q0 67) .int) ∧ vp_in x3 (zln G (zrv G q0 67)) ∧
      ((¬ (ziv G (zrv G q0 67) x3.toNatClampNeg) = x2 →
        zW E l mX12_prints d b G0 Q k 9 [some (.ref q0), some (.int x1), some (.int x2), some (.int (x3 + 1))] [] G) ∧
      (¬ (¬ (ziv G (zrv G q0 67) x3.toNatClampNeg) = x2) →
        zob G q0 13 ∧
        (zar G (zrv G q0 68) 0 ∨ zrd G (zrv G q0 68) .int) ∧ vp_in x3 (zln G (zrv G q0 68)) ∧
        zob G q0 13 ∧
        (((ziv G q0 1) < (ziv G (zrv G q0 68) x3.toNatClampNeg) →
          zW E l mX12_prints d b G0 Q k 9 [some (.ref q0), some (.int x1), some (.int x2), some (.int (x3 + 1))] [] G) ∧
        (¬ ((ziv G q0 1) < (ziv G (zrv G q0 68) x3.toNatClampNeg)) →
          zob G q0 13 ∧
          zob G q0 13 ∧
          (zar G (zrv G q0 69) 0 ∨ zrd G (zrv G q0 69) .int) ∧ vp_in x3 (zln G (zrv G q0 69)) ∧
          (((ziv G (zrv G q0 69) x3.toNatClampNeg) ≤ (ziv G q0 1) →
            zW E l mX12_prints d b G0 Q k 9 [some (.ref q0), some (.int x1), some (.int x2), some (.int (x3 + 1))] [] G) ∧
          (¬ ((ziv G (zrv G q0 69) x3.toNatClampNeg) ≤ (ziv G q0 1)) →
            zob G q0 13 ∧
            zob G q0 13 ∧
            zar G (zrv G q0 69) 0 ∧ vp_in x3 (zln G (zrv G q0 69)) ∧
            ∀ G1, G1 = zsi G (zrv G q0 69) x3.toNatClampNeg (ziv G q0 1) →
            zW E l mX12_prints d b G0 Q k 9 [some (.ref q0), some (.int x1), some (.int x2), some (.int (x3 + 1))] [] G1))))))))))
theorem wpt_X12_prints_9 {E : ZE} {l : Launch} {d b : Nat} {G0 : ZG} {Q : ZQ} {k : Nat} {q0 : Nat} {x1 : Int32} {x2 : Int32} {x3 : Int32} {G : ZG} (h : wp_X12_prints_9 E l d b G0 Q k q0 x1 x2 x3 G) : zW E l mX12_prints d b G0 Q k 9 [some (.ref q0), some (.int x1), some (.int x2), some (.int x3)] [] G := by
  unfold wp_X12_prints_9 at h
  refine z_iload_n (pc' := 10) dX12_prints_9 rfl rfl ?_
  refine z_aload_n (pc' := 11) dX12_prints_10 rfl rfl ?_
  obtain ⟨h1, h⟩ := h
  refine z_getI (ci := 13) (kf := 71) (pc' := 14) dX12_prints_11 kX12_415 (Or.inl rfl) (by decide) (by decide) rfl rfl h1 ?_
  refine z_icmp_ge (pt := 79) (pc' := 17) dX12_prints_14 (by decide) rfl (fun hc => ?_) (fun hc => ?_)
  · have h := h.1 hc
    exact z_dr (ls' := [some (.ref q0), some (.int x1), some (.int x2), none]) ⟨rfl, rfl, rfl, trivial⟩ h
  · have h := h.2 hc
    refine z_aload_n (pc' := 18) dX12_prints_17 rfl rfl ?_
    obtain ⟨h1, h⟩ := h
    refine z_getR (ci := 13) (kf := 54) (pc' := 21) dX12_prints_18 kX12_115 (Or.inl rfl) (by decide) (by decide) rfl rfl h1 ?_
    refine z_iload_n (pc' := 22) dX12_prints_21 rfl rfl ?_
    obtain ⟨h1, h2, h⟩ := h
    refine z_iald (pc' := 23) dX12_prints_22 rfl h1 h2 ?_
    refine z_iconst (x := 3) (pc' := 24) dX12_prints_23 (by decide) rfl ?_
    refine z_icmp_eq (pt := 79) (pc' := 27) dX12_prints_24 (by decide) rfl (fun hc => ?_) (fun hc => ?_)
    · have h := h.1 hc
      exact z_dr (ls' := [some (.ref q0), some (.int x1), some (.int x2), none]) ⟨rfl, rfl, rfl, trivial⟩ h
    · have h := h.2 hc
      refine z_aload_n (pc' := 28) dX12_prints_27 rfl rfl ?_
      obtain ⟨h1, h⟩ := h
      refine z_getR (ci := 13) (kf := 67) (pc' := 31) dX12_prints_28 kX12_151 (Or.inl rfl) (by decide) (by decide) rfl rfl h1 ?_
      refine z_iload_n (pc' := 32) dX12_prints_31 rfl rfl ?_
      obtain ⟨h1, h2, h⟩ := h
      refine z_iald (pc' := 33) dX12_prints_32 rfl h1 h2 ?_
      refine z_iload_n (pc' := 34) dX12_prints_33 rfl rfl ?_
      refine z_icmp_ne (pt := 73) (pc' := 37) dX12_prints_34 (by decide) rfl (fun hc => ?_) (fun hc => ?_)
      · have h := h.1 hc
        refine z_iinc (y := x3 + 1) (pc' := 76) dX12_prints_73 rfl (zinc_1 _) (by decide) rfl ?_
        refine z_goto (pc' := 9) dX12_prints_76 (by decide) ?_
        exact z_dr (ls' := [some (.ref q0), some (.int x1), some (.int x2), some (.int (x3 + 1))]) ⟨rfl, rfl, rfl, rfl, trivial⟩ h
      · have h := h.2 hc
        refine z_aload_n (pc' := 38) dX12_prints_37 rfl rfl ?_
        obtain ⟨h1, h⟩ := h
        refine z_getR (ci := 13) (kf := 68) (pc' := 41) dX12_prints_38 kX12_154 (Or.inl rfl) (by decide) (by decide) rfl rfl h1 ?_
        refine z_iload_n (pc' := 42) dX12_prints_41 rfl rfl ?_
        obtain ⟨h1, h2, h⟩ := h
        refine z_iald (pc' := 43) dX12_prints_42 rfl h1 h2 ?_
        refine z_aload_n (pc' := 44) dX12_prints_43 rfl rfl ?_
        obtain ⟨h1, h⟩ := h
        refine z_getI (ci := 13) (kf := 1) (pc' := 47) dX12_prints_44 kX12_314 (Or.inl rfl) (by decide) (by decide) rfl rfl h1 ?_
        refine z_icmp_gt (pt := 73) (pc' := 50) dX12_prints_47 (by decide) rfl (fun hc => ?_) (fun hc => ?_)
        · have h := h.1 hc
          refine z_iinc (y := x3 + 1) (pc' := 76) dX12_prints_73 rfl (zinc_1 _) (by decide) rfl ?_
          refine z_goto (pc' := 9) dX12_prints_76 (by decide) ?_
          exact z_dr (ls' := [some (.ref q0), some (.int x1), some (.int x2), some (.int (x3 + 1))]) ⟨rfl, rfl, rfl, rfl, trivial⟩ h
        · have h := h.2 hc
          refine z_aload_n (pc' := 51) dX12_prints_50 rfl rfl ?_
          obtain ⟨h1, h⟩ := h
          refine z_getI (ci := 13) (kf := 1) (pc' := 54) dX12_prints_51 kX12_314 (Or.inl rfl) (by decide) (by decide) rfl rfl h1 ?_
          refine z_aload_n (pc' := 55) dX12_prints_54 rfl rfl ?_
          obtain ⟨h1, h⟩ := h
          refine z_getR (ci := 13) (kf := 69) (pc' := 58) dX12_prints_55 kX12_157 (Or.inl rfl) (by decide) (by decide) rfl rfl h1 ?_
          refine z_iload_n (pc' := 59) dX12_prints_58 rfl rfl ?_
          obtain ⟨h1, h2, h⟩ := h
          refine z_iald (pc' := 60) dX12_prints_59 rfl h1 h2 ?_
          refine z_icmp_ge (pt := 73) (pc' := 63) dX12_prints_60 (by decide) rfl (fun hc => ?_) (fun hc => ?_)
          · have h := h.1 hc
            refine z_iinc (y := x3 + 1) (pc' := 76) dX12_prints_73 rfl (zinc_1 _) (by decide) rfl ?_
            refine z_goto (pc' := 9) dX12_prints_76 (by decide) ?_
            exact z_dr (ls' := [some (.ref q0), some (.int x1), some (.int x2), some (.int (x3 + 1))]) ⟨rfl, rfl, rfl, rfl, trivial⟩ h
          · have h := h.2 hc
            refine z_aload_n (pc' := 64) dX12_prints_63 rfl rfl ?_
            obtain ⟨h1, h⟩ := h
            refine z_getR (ci := 13) (kf := 69) (pc' := 67) dX12_prints_64 kX12_157 (Or.inl rfl) (by decide) (by decide) rfl rfl h1 ?_
            refine z_iload_n (pc' := 68) dX12_prints_67 rfl rfl ?_
            refine z_aload_n (pc' := 69) dX12_prints_68 rfl rfl ?_
            obtain ⟨h1, h⟩ := h
            refine z_getI (ci := 13) (kf := 1) (pc' := 72) dX12_prints_69 kX12_314 (Or.inl rfl) (by decide) (by decide) rfl rfl h1 ?_
            obtain ⟨h1, h2, h⟩ := h
            obtain ⟨G1, hG⟩ : ∃ z, z = zsi G (zrv G q0 69) x3.toNatClampNeg (ziv G q0 1) := ⟨_, rfl⟩
            have h := h _ hG
            refine z_iast (pc' := 73) dX12_prints_72 rfl h1 h2  ?_
            refine z_st hG ?_
            refine z_iinc (y := x3 + 1) (pc' := 76) dX12_prints_73 rfl (zinc_1 _) (by decide) rfl ?_
            refine z_goto (pc' := 9) dX12_prints_76 (by decide) ?_
            exact z_dr (ls' := [some (.ref q0), some (.int x1), some (.int x2), some (.int (x3 + 1))]) ⟨rfl, rfl, rfl, rfl, trivial⟩ h
def wp_X12_prints_79 (E : ZE) (l : Launch) (d b : Nat) (G0 : ZG) (Q : ZQ) (k : Nat) (q0 : Nat) (x1 : Int32) (x2 : Int32) (G : ZG) : Prop :=
  zob G q0 13 ∧
  zob G q0 13 ∧
  zar G (zrv G q0 67) 0 ∧ vp_in (ziv G q0 71) (zln G (zrv G q0 67)) ∧
  ∀ G1, G1 = zsi G (zrv G q0 67) (ziv G q0 71).toNatClampNeg x2 →
  zob G1 q0 13 ∧
  zob G1 q0 13 ∧
  zob G1 q0 13 ∧
  zar G1 (zrv G1 q0 68) 0 ∧ vp_in (ziv G1 q0 71) (zln G1 (zrv G1 q0 68)) ∧
  ∀ G2, G2 = zsi G1 (zrv G1 q0 68) (ziv G1 q0 71).toNatClampNeg (ziv G1 q0 1) →
  zob G2 q0 13 ∧
  zob G2 q0 13 ∧
  zob G2 q0 13 ∧
  zob G2 q0 13 ∧
  (zar G2 (zrv G2 q0 61) 0 ∨ zrd G2 (zrv G2 q0 61) .int) ∧ vp_in x1 (zln G2 (zrv G2 q0 61)) ∧
  zar G2 (zrv G2 q0 69) 0 ∧ vp_in (ziv G2 q0 71) (zln G2 (zrv G2 q0 69)) ∧
  ∀ G3, G3 = zsi G2 (zrv G2 q0 69) (ziv G2 q0 71).toNatClampNeg ((ziv G2 q0 1) + (365 * (ziv G2 (zrv G2 q0 61) x1.toNatClampNeg))) →
  zob G3 q0 13 ∧
  zob G3 q0 13 ∧
  zar G3 (zrv G3 q0 70) 0 ∧ vp_in (ziv G3 q0 71) (zln G3 (zrv G3 q0 70)) ∧
  ∀ G4, G4 = zsi G3 (zrv G3 q0 70) (ziv G3 q0 71).toNatClampNeg x1 →
  zob G4 q0 13 ∧
  zob G4 q0 13 ∧
  xcV E l mX12_sets d [.ref q0, .int x1, .int 1, .int (ziv G4 q0 71)] G4 k (fun X G9 => Q (.inr X) G9) (fun G5 k6 =>
  zob G5 q0 13 ∧
  zob G5 q0 13 ∧
  ∀ G7, G7 = zsi G5 q0 71 ((ziv G5 q0 71) + 1) →
  zob G7 q0 13 ∧
  zob G7 q0 13 ∧
  ∀ G8, G8 = zsi G7 q0 43 ((ziv G7 q0 43) - 1) →
  zob G8 q0 13 ∧
  zar G8 (zrv G8 q0 30) 2 ∧ vp_in x2 (zln G8 (zrv G8 q0 30)) ∧
  (((ziv G8 (zrv G8 q0 30) x2.toNatClampNeg) = 0 →
    zob G8 q0 13 ∧
    zW E l mX12_prints d b G0 Q k6 186 [some (.ref q0), some (.int x1), none, none] [.int (ziv G8 q0 40)] G8) ∧
  (¬ ((ziv G8 (zrv G8 q0 30) x2.toNatClampNeg) = 0) →
    zob G8 q0 13 ∧
    zW E l mX12_prints d b G0 Q k6 186 [some (.ref q0), some (.int x1), none, none] [.int (ziv G8 q0 41)] G8)))
theorem wpt_X12_prints_79 {E : ZE} {l : Launch} {d b : Nat} {G0 : ZG} {Q : ZQ} {k : Nat} {q0 : Nat} {x1 : Int32} {x2 : Int32} {G : ZG} (h : wp_X12_prints_79 E l d b G0 Q k q0 x1 x2 G) : zW E l mX12_prints d b G0 Q k 79 [some (.ref q0), some (.int x1), some (.int x2), none] [] G := by
  unfold wp_X12_prints_79 at h
  refine z_aload_n (pc' := 80) dX12_prints_79 rfl rfl ?_
  obtain ⟨h1, h⟩ := h
  refine z_getR (ci := 13) (kf := 67) (pc' := 83) dX12_prints_80 kX12_151 (Or.inl rfl) (by decide) (by decide) rfl rfl h1 ?_
  refine z_aload_n (pc' := 84) dX12_prints_83 rfl rfl ?_
  obtain ⟨h1, h⟩ := h
  refine z_getI (ci := 13) (kf := 71) (pc' := 87) dX12_prints_84 kX12_415 (Or.inl rfl) (by decide) (by decide) rfl rfl h1 ?_
  refine z_iload_n (pc' := 88) dX12_prints_87 rfl rfl ?_
  obtain ⟨h1, h2, h⟩ := h
  obtain ⟨G1, hG⟩ : ∃ z, z = zsi G (zrv G q0 67) (ziv G q0 71).toNatClampNeg x2 := ⟨_, rfl⟩
  have h := h _ hG
  refine z_iast (pc' := 89) dX12_prints_88 rfl h1 h2  ?_
  refine z_st hG ?_
  refine z_aload_n (pc' := 90) dX12_prints_89 rfl rfl ?_
  obtain ⟨h1, h⟩ := h
  refine z_getR (ci := 13) (kf := 68) (pc' := 93) dX12_prints_90 kX12_154 (Or.inl rfl) (by decide) (by decide) rfl rfl h1 ?_
  refine z_aload_n (pc' := 94) dX12_prints_93 rfl rfl ?_
  obtain ⟨h1, h⟩ := h
  refine z_getI (ci := 13) (kf := 71) (pc' := 97) dX12_prints_94 kX12_415 (Or.inl rfl) (by decide) (by decide) rfl rfl h1 ?_
  refine z_aload_n (pc' := 98) dX12_prints_97 rfl rfl ?_
  obtain ⟨h1, h⟩ := h
  refine z_getI (ci := 13) (kf := 1) (pc' := 101) dX12_prints_98 kX12_314 (Or.inl rfl) (by decide) (by decide) rfl rfl h1 ?_
  obtain ⟨h1, h2, h⟩ := h
  obtain ⟨G2, hG⟩ : ∃ z, z = zsi G1 (zrv G1 q0 68) (ziv G1 q0 71).toNatClampNeg (ziv G1 q0 1) := ⟨_, rfl⟩
  have h := h _ hG
  refine z_iast (pc' := 102) dX12_prints_101 rfl h1 h2  ?_
  refine z_st hG ?_
  refine z_aload_n (pc' := 103) dX12_prints_102 rfl rfl ?_
  obtain ⟨h1, h⟩ := h
  refine z_getR (ci := 13) (kf := 69) (pc' := 106) dX12_prints_103 kX12_157 (Or.inl rfl) (by decide) (by decide) rfl rfl h1 ?_
  refine z_aload_n (pc' := 107) dX12_prints_106 rfl rfl ?_
  obtain ⟨h1, h⟩ := h
  refine z_getI (ci := 13) (kf := 71) (pc' := 110) dX12_prints_107 kX12_415 (Or.inl rfl) (by decide) (by decide) rfl rfl h1 ?_
  refine z_aload_n (pc' := 111) dX12_prints_110 rfl rfl ?_
  obtain ⟨h1, h⟩ := h
  refine z_getI (ci := 13) (kf := 1) (pc' := 114) dX12_prints_111 kX12_314 (Or.inl rfl) (by decide) (by decide) rfl rfl h1 ?_
  refine z_sipush (x := 365) (pc' := 117) dX12_prints_114 (by decide) rfl ?_
  refine z_aload_n (pc' := 118) dX12_prints_117 rfl rfl ?_
  obtain ⟨h1, h⟩ := h
  refine z_getR (ci := 13) (kf := 61) (pc' := 121) dX12_prints_118 kX12_136 (Or.inl rfl) (by decide) (by decide) rfl rfl h1 ?_
  refine z_iload_n (pc' := 122) dX12_prints_121 rfl rfl ?_
  obtain ⟨h1, h2, h⟩ := h
  refine z_iald (pc' := 123) dX12_prints_122 rfl h1 h2 ?_
  refine z_imul (pc' := 124) dX12_prints_123 rfl rfl ?_
  refine z_iadd (pc' := 125) dX12_prints_124 rfl rfl ?_
  obtain ⟨h1, h2, h⟩ := h
  obtain ⟨G3, hG⟩ : ∃ z, z = zsi G2 (zrv G2 q0 69) (ziv G2 q0 71).toNatClampNeg ((ziv G2 q0 1) + (365 * (ziv G2 (zrv G2 q0 61) x1.toNatClampNeg))) := ⟨_, rfl⟩
  have h := h _ hG
  refine z_iast (pc' := 126) dX12_prints_125 rfl h1 h2  ?_
  refine z_st hG ?_
  refine z_aload_n (pc' := 127) dX12_prints_126 rfl rfl ?_
  obtain ⟨h1, h⟩ := h
  refine z_getR (ci := 13) (kf := 70) (pc' := 130) dX12_prints_127 kX12_160 (Or.inl rfl) (by decide) (by decide) rfl rfl h1 ?_
  refine z_aload_n (pc' := 131) dX12_prints_130 rfl rfl ?_
  obtain ⟨h1, h⟩ := h
  refine z_getI (ci := 13) (kf := 71) (pc' := 134) dX12_prints_131 kX12_415 (Or.inl rfl) (by decide) (by decide) rfl rfl h1 ?_
  refine z_iload_n (pc' := 135) dX12_prints_134 rfl rfl ?_
  obtain ⟨h1, h2, h⟩ := h
  obtain ⟨G4, hG⟩ : ∃ z, z = zsi G3 (zrv G3 q0 70) (ziv G3 q0 71).toNatClampNeg x1 := ⟨_, rfl⟩
  have h := h _ hG
  refine z_iast (pc' := 136) dX12_prints_135 rfl h1 h2  ?_
  refine z_st hG ?_
  refine z_aload_n (pc' := 137) dX12_prints_136 rfl rfl ?_
  refine z_iload_n (pc' := 138) dX12_prints_137 rfl rfl ?_
  refine z_iconst (x := 1) (pc' := 139) dX12_prints_138 (by decide) rfl ?_
  refine z_aload_n (pc' := 140) dX12_prints_139 rfl rfl ?_
  obtain ⟨h1, h⟩ := h
  refine z_getI (ci := 13) (kf := 71) (pc' := 143) dX12_prints_140 kX12_415 (Or.inl rfl) (by decide) (by decide) rfl rfl h1 ?_
  obtain ⟨h1, h⟩ := h
  obtain ⟨d1, b1, Qz, hm, hdd, hb, hkx, hk⟩ := h
  refine z_callV (Y := mX12_sets) (n := 3) (as := [.int x1, .int 1, .int (ziv G4 q0 71)]) (st := []) (pc' := 146) (ci := 13) (q := q0) hm dX12_prints_143 kX12_425 vX12_sets rfl rfl (by decide) rfl h1 hdd hb (Nat.le_of_ble_eq_true rfl) (fun r G5 hz => ?_) hkx
  obtain ⟨rfl, h⟩ := hk r G5 hz
  refine z_aload_n (pc' := 147) dX12_prints_146 rfl rfl ?_
  refine z_dup (pc' := 148) dX12_prints_147 rfl rfl ?_
  obtain ⟨h1, h⟩ := h
  refine z_getI (ci := 13) (kf := 71) (pc' := 151) dX12_prints_148 kX12_415 (Or.inl rfl) (by decide) (by decide) rfl rfl h1 ?_
  refine z_iconst (x := 1) (pc' := 152) dX12_prints_151 (by decide) rfl ?_
  refine z_iadd (pc' := 153) dX12_prints_152 rfl rfl ?_
  obtain ⟨h1, h⟩ := h
  obtain ⟨G7, hG⟩ : ∃ z, z = zsi G5 q0 71 ((ziv G5 q0 71) + 1) := ⟨_, rfl⟩
  have h := h _ hG
  refine z_putI (ci := 13) (kf := 71) (pc' := 156) dX12_prints_153 kX12_415 (Or.inl rfl) (by decide) (by decide) rfl (Or.inl rfl) rfl h1 (zok_int _) ?_
  refine z_st hG ?_
  refine z_aload_n (pc' := 157) dX12_prints_156 rfl rfl ?_
  refine z_dup (pc' := 158) dX12_prints_157 rfl rfl ?_
  obtain ⟨h1, h⟩ := h
  refine z_getI (ci := 13) (kf := 43) (pc' := 161) dX12_prints_158 kX12_406 (Or.inl rfl) (by decide) (by decide) rfl rfl h1 ?_
  refine z_iconst (x := 1) (pc' := 162) dX12_prints_161 (by decide) rfl ?_
  refine z_isub (pc' := 163) dX12_prints_162 rfl rfl ?_
  obtain ⟨h1, h⟩ := h
  obtain ⟨G8, hG⟩ : ∃ z, z = zsi G7 q0 43 ((ziv G7 q0 43) - 1) := ⟨_, rfl⟩
  have h := h _ hG
  refine z_putI (ci := 13) (kf := 43) (pc' := 166) dX12_prints_163 kX12_406 (Or.inl rfl) (by decide) (by decide) rfl (Or.inl rfl) rfl h1 (zok_int _) ?_
  refine z_st hG ?_
  refine z_aload_n (pc' := 167) dX12_prints_166 rfl rfl ?_
  obtain ⟨h1, h⟩ := h
  refine z_getR (ci := 13) (kf := 30) (pc' := 170) dX12_prints_167 kX12_58 (Or.inl rfl) (by decide) (by decide) rfl rfl h1 ?_
  refine z_iload_n (pc' := 171) dX12_prints_170 rfl rfl ?_
  obtain ⟨h1, h2, h⟩ := h
  refine z_zald (pc' := 172) dX12_prints_171 rfl h1 h2 ?_
  refine z_if_eq (pt := 182) (pc' := 175) dX12_prints_172 (by decide) rfl (fun hc => ?_) (fun hc => ?_)
  · have h := h.1 hc
    refine z_aload_n (pc' := 183) dX12_prints_182 rfl rfl ?_
    obtain ⟨h1, h⟩ := h
    refine z_getI (ci := 13) (kf := 40) (pc' := 186) dX12_prints_183 kX12_85 (Or.inl rfl) (by decide) (by decide) rfl rfl h1 ?_
    exact z_dr (ls' := [some (.ref q0), some (.int x1), none, none]) ⟨rfl, rfl, trivial⟩ h
  · have h := h.2 hc
    refine z_aload_n (pc' := 176) dX12_prints_175 rfl rfl ?_
    obtain ⟨h1, h⟩ := h
    refine z_getI (ci := 13) (kf := 41) (pc' := 179) dX12_prints_176 kX12_88 (Or.inl rfl) (by decide) (by decide) rfl rfl h1 ?_
    refine z_goto (pc' := 186) dX12_prints_179 (by decide) ?_
    exact z_dr (ls' := [some (.ref q0), some (.int x1), none, none]) ⟨rfl, rfl, trivial⟩ h
def wp_X12_prints_186 (E : ZE) (l : Launch) (d b : Nat) (G0 : ZG) (Q : ZQ) (k : Nat) (q0 : Nat) (x1 : Int32) (s0 : Int32) (G : ZG) : Prop :=
  zob G q0 13 ∧
  zob G q0 13 ∧
  xcV E l mX12_sets d [.ref q0, .int x1, .int 4, .int ((ziv G q0 1) + s0)] G k (fun X G9 => Q (.inr X) G9) (fun G1 k2 =>
  ((¬ s0 = 0 →
    zob G1 q0 13 ∧
    xcV E l mX12_sets d [.ref q0, .int x1, .int 0, .int 6] G1 k2 (fun X G9 => Q (.inr X) G9) (fun G3 k4 =>
    Q (.inl none) G3)) ∧
  (¬ (¬ s0 = 0) →
    zob G1 q0 13 ∧
    xcV E l mX12_gets d [.ref q0, .int x1] G1 k2 (fun X G9 => Q (.inr X) G9) (fun G5 k6 =>
    Q (.inl none) G5))))
theorem wpt_X12_prints_186 {E : ZE} {l : Launch} {d b : Nat} {G0 : ZG} {Q : ZQ} {k : Nat} {q0 : Nat} {x1 : Int32} {s0 : Int32} {G : ZG} (h : wp_X12_prints_186 E l d b G0 Q k q0 x1 s0 G) : zW E l mX12_prints d b G0 Q k 186 [some (.ref q0), some (.int x1), none, none] [.int s0] G := by
  unfold wp_X12_prints_186 at h
  refine z_istore_n (pc' := 187) dX12_prints_186 (by decide) rfl ?_
  refine z_aload_n (pc' := 188) dX12_prints_187 rfl rfl ?_
  refine z_iload_n (pc' := 189) dX12_prints_188 rfl rfl ?_
  refine z_iconst (x := 4) (pc' := 190) dX12_prints_189 (by decide) rfl ?_
  refine z_aload_n (pc' := 191) dX12_prints_190 rfl rfl ?_
  obtain ⟨h1, h⟩ := h
  refine z_getI (ci := 13) (kf := 1) (pc' := 194) dX12_prints_191 kX12_314 (Or.inl rfl) (by decide) (by decide) rfl rfl h1 ?_
  refine z_iload_n (pc' := 195) dX12_prints_194 rfl rfl ?_
  refine z_iadd (pc' := 196) dX12_prints_195 rfl rfl ?_
  obtain ⟨h1, h⟩ := h
  obtain ⟨d1, b1, Qz, hm, hdd, hb, hkx, hk⟩ := h
  refine z_callV (Y := mX12_sets) (n := 3) (as := [.int x1, .int 4, .int ((ziv G q0 1) + s0)]) (st := []) (pc' := 199) (ci := 13) (q := q0) hm dX12_prints_196 kX12_425 vX12_sets rfl rfl (by decide) rfl h1 hdd hb (Nat.le_of_ble_eq_true rfl) (fun r G1 hz => ?_) hkx
  obtain ⟨rfl, h⟩ := hk r G1 hz
  refine z_iload_n (pc' := 200) dX12_prints_199 rfl rfl ?_
  refine z_if_ne (pt := 211) (pc' := 203) dX12_prints_200 (by decide) rfl (fun hc => ?_) (fun hc => ?_)
  · have h := h.1 hc
    refine z_aload_n (pc' := 212) dX12_prints_211 rfl rfl ?_
    refine z_iload_n (pc' := 213) dX12_prints_212 rfl rfl ?_
    refine z_iconst (x := 0) (pc' := 214) dX12_prints_213 (by decide) rfl ?_
    refine z_bipush (x := 6) (pc' := 216) dX12_prints_214 (by decide) rfl ?_
    obtain ⟨h1, h⟩ := h
    obtain ⟨d1, b1, Qz, hm, hdd, hb, hkx, hk⟩ := h
    refine z_callV (Y := mX12_sets) (n := 3) (as := [.int x1, .int 0, .int 6]) (st := []) (pc' := 219) (ci := 13) (q := q0) hm dX12_prints_216 kX12_425 vX12_sets rfl rfl (by decide) rfl h1 hdd hb (Nat.le_of_ble_eq_true rfl) (fun r G3 hz => ?_) hkx
    obtain ⟨rfl, h⟩ := hk r G3 hz
    exact z_vret dX12_prints_219 rfl h
  · have h := h.2 hc
    refine z_aload_n (pc' := 204) dX12_prints_203 rfl rfl ?_
    refine z_iload_n (pc' := 205) dX12_prints_204 rfl rfl ?_
    obtain ⟨h1, h⟩ := h
    obtain ⟨d1, b1, Qz, hm, hdd, hb, hkx, hk⟩ := h
    refine z_callV (Y := mX12_gets) (n := 1) (as := [.int x1]) (st := []) (pc' := 208) (ci := 13) (q := q0) hm dX12_prints_205 kX12_459 vX12_gets rfl rfl (by decide) rfl h1 hdd hb (Nat.le_of_ble_eq_true rfl) (fun r G5 hz => ?_) hkx
    obtain ⟨rfl, h⟩ := hk r G5 hz
    refine z_goto (pc' := 219) dX12_prints_208 (by decide) ?_
    exact z_vret dX12_prints_219 rfl h
def wp_X12_queue_0 (E : ZE) (l : Launch) (d b : Nat) (G0 : ZG) (Q : ZQ) (k : Nat) (q0 : Nat) (x1 : Int32) (G : ZG) : Prop :=
  zob G q0 13 ∧
  ∀ G1, G1 = zsi G q0 0 0 →
  xcI E l mX12_noDesk d [.int x1] G1 k (fun X G9 => Q (.inr X) G9) (fun y2 G3 k4 =>
  zob G3 q0 13 ∧
  xcI E l mX12_throwsIf d [.ref q0, .int y2, .int 1] G3 k4 (fun X G9 => Q (.inr X) G9) (fun y5 G6 k7 =>
  ((y5 = 0 →
    zob G6 q0 13 ∧
    zob G6 q0 13 ∧
    xcV E l mX12_lines d [.ref q0, .int x1, .int (ziv G6 q0 42)] G6 k7 (fun X G9 => Q (.inr X) G9) (fun G8 k9 =>
    zob G8 q0 13 ∧
    Q (.inl (some (.int (ziv G8 q0 78)))) G8)) ∧
  (¬ (y5 = 0) →
    Q (.inl (some (.int 0))) G6))))
theorem wpt_X12_queue_0 {E : ZE} {l : Launch} {d b : Nat} {G0 : ZG} {Q : ZQ} {k : Nat} {q0 : Nat} {x1 : Int32} {G : ZG} (h : wp_X12_queue_0 E l d b G0 Q k q0 x1 G) : zW E l mX12_queue d b G0 Q k 0 [some (.ref q0), some (.int x1)] [] G := by
  unfold wp_X12_queue_0 at h
  refine z_aload_n (pc' := 1) dX12_queue_0 rfl rfl ?_
  refine z_iconst (x := 0) (pc' := 2) dX12_queue_1 (by decide) rfl ?_
  obtain ⟨h1, h⟩ := h
  obtain ⟨G1, hG⟩ : ∃ z, z = zsi G q0 0 0 := ⟨_, rfl⟩
  have h := h _ hG
  refine z_putI (ci := 13) (kf := 0) (pc' := 5) dX12_queue_2 kX12_178 (Or.inl rfl) (by decide) (by decide) rfl (Or.inl rfl) rfl h1 (zok_int _) ?_
  refine z_st hG ?_
  refine z_aload_n (pc' := 6) dX12_queue_5 rfl rfl ?_
  refine z_iload_n (pc' := 7) dX12_queue_6 rfl rfl ?_
  obtain ⟨d1, b1, Qz, hm, hdd, hb, hkx, hk⟩ := h
  refine z_callS (Y := mX12_noDesk) (n := 1) (as := [.int x1]) (st := [.ref q0]) (pc' := 10) hm dX12_queue_7 kX12_394 sX12_noDesk rfl rfl hdd hb (Nat.le_of_ble_eq_true rfl) (fun r G3 hz => ?_) hkx
  obtain ⟨y2, rfl, h⟩ := hk r G3 hz
  refine z_iconst (x := 1) (pc' := 11) dX12_queue_10 (by decide) rfl ?_
  obtain ⟨h1, h⟩ := h
  obtain ⟨d1, b1, Qz, hm, hdd, hb, hkx, hk⟩ := h
  refine z_callV (Y := mX12_throwsIf) (n := 2) (as := [.int y2, .int 1]) (st := []) (pc' := 14) (ci := 13) (q := q0) hm dX12_queue_11 kX12_321 vX12_throwsIf rfl rfl (by decide) rfl h1 hdd hb (Nat.le_of_ble_eq_true rfl) (fun r G6 hz => ?_) hkx
  obtain ⟨y5, rfl, h⟩ := hk r G6 hz
  refine z_if_eq (pt := 19) (pc' := 17) dX12_queue_14 (by decide) rfl (fun hc => ?_) (fun hc => ?_)
  · have h := h.1 hc
    refine z_aload_n (pc' := 20) dX12_queue_19 rfl rfl ?_
    refine z_iload_n (pc' := 21) dX12_queue_20 rfl rfl ?_
    refine z_aload_n (pc' := 22) dX12_queue_21 rfl rfl ?_
    obtain ⟨h1, h⟩ := h
    refine z_getI (ci := 13) (kf := 42) (pc' := 25) dX12_queue_22 kX12_403 (Or.inl rfl) (by decide) (by decide) rfl rfl h1 ?_
    obtain ⟨h1, h⟩ := h
    obtain ⟨d1, b1, Qz, hm, hdd, hb, hkx, hk⟩ := h
    refine z_callV (Y := mX12_lines) (n := 2) (as := [.int x1, .int (ziv G6 q0 42)]) (st := []) (pc' := 28) (ci := 13) (q := q0) hm dX12_queue_25 kX12_468 vX12_lines rfl rfl (by decide) rfl h1 hdd hb (Nat.le_of_ble_eq_true rfl) (fun r G8 hz => ?_) hkx
    obtain ⟨rfl, h⟩ := hk r G8 hz
    refine z_aload_n (pc' := 29) dX12_queue_28 rfl rfl ?_
    obtain ⟨h1, h⟩ := h
    refine z_getI (ci := 13) (kf := 78) (pc' := 32) dX12_queue_29 kX12_447 (Or.inl rfl) (by decide) (by decide) rfl rfl h1 ?_
    exact z_iret dX12_queue_32 rfl h
  · have h := h.2 hc
    refine z_iconst (x := 0) (pc' := 18) dX12_queue_17 (by decide) rfl ?_
    exact z_iret dX12_queue_18 rfl h
def wp_X12_readAllOf_0 (E : ZE) (l : Launch) (d b : Nat) (G0 : ZG) (Q : ZQ) (k : Nat) (q0 : Nat) (G : ZG) : Prop :=
  zob G q0 13 ∧
  xcI E l mX12_readAtom d [.ref q0] G k (fun X G9 => Q (.inr X) G9) (fun y1 G2 k3 =>
  ((¬ y1 = 0 →
    zW E l mX12_readAllOf d b G0 Q k3 9 [some (.ref q0)] [] G2) ∧
  (¬ (¬ y1 = 0) →
    Q (.inl (some (.int 0))) G2)))
theorem wpt_X12_readAllOf_0 {E : ZE} {l : Launch} {d b : Nat} {G0 : ZG} {Q : ZQ} {k : Nat} {q0 : Nat} {G : ZG} (h : wp_X12_readAllOf_0 E l d b G0 Q k q0 G) : zW E l mX12_readAllOf d b G0 Q k 0 [some (.ref q0)] [] G := by
  unfold wp_X12_readAllOf_0 at h
  refine z_aload_n (pc' := 1) dX12_readAllOf_0 rfl rfl ?_
  obtain ⟨h1, h⟩ := h
  obtain ⟨d1, b1, Qz, hm, hdd, hb, hkx, hk⟩ := h
  refine z_callV (Y := mX12_readAtom) (n := 0) (as := []) (st := []) (pc' := 4) (ci := 13) (q := q0) hm dX12_readAllOf_1 kX12_270 vX12_readAtom rfl rfl (by decide) rfl h1 hdd hb (Nat.le_of_ble_eq_true rfl) (fun r G2 hz => ?_) hkx
  obtain ⟨y1, rfl, h⟩ := hk r G2 hz
  refine z_if_ne (pt := 9) (pc' := 7) dX12_readAllOf_4 (by decide) rfl (fun hc => ?_) (fun hc => ?_)
  · have h := h.1 hc
    exact z_dr (ls' := [some (.ref q0)]) ⟨rfl, trivial⟩ h
  · have h := h.2 hc
    refine z_iconst (x := 0) (pc' := 8) dX12_readAllOf_7 (by decide) rfl ?_
    exact z_zret (ty := .boolean) dX12_readAllOf_8 rfl (by decide) h
def wp_X12_readAllOf_9 (E : ZE) (l : Launch) (d b : Nat) (G0 : ZG) (Q : ZQ) (k : Nat) (q0 : Nat) (G : ZG) : Prop :=
  zob G q0 13 ∧
  xcI E l mX12_passes d [.ref q0, .ref (zp 1000 5)] G k (fun X G9 => Q (.inr X) G9) (fun y1 G2 k3 =>
  ((y1 = 0 →
    Q (.inl (some (.int 1))) G2) ∧
  (¬ (y1 = 0) →
    zob G2 q0 13 ∧
    xcI E l mX12_readAtom d [.ref q0] G2 k3 (fun X G9 => Q (.inr X) G9) (fun y4 G5 k6 =>
    ((¬ y4 = 0 →
      zob G5 q0 13 ∧
      xcV E l mX12_adds d [.ref q0, .int 101, .int 0, .int 0] G5 k6 (fun X G9 => Q (.inr X) G9) (fun G7 k8 =>
      zW E l mX12_readAllOf d b G0 Q k8 9 [some (.ref q0)] [] G7)) ∧
    (¬ (¬ y4 = 0) →
      Q (.inl (some (.int 0))) G5))))))
theorem wpt_X12_readAllOf_9 {E : ZE} {l : Launch} {d b : Nat} {G0 : ZG} {Q : ZQ} {k : Nat} {q0 : Nat} {G : ZG} (h : wp_X12_readAllOf_9 E l d b G0 Q k q0 G) : zW E l mX12_readAllOf d b G0 Q k 9 [some (.ref q0)] [] G := by
  unfold wp_X12_readAllOf_9 at h
  refine z_aload_n (pc' := 10) dX12_readAllOf_9 rfl rfl ?_
  refine z_ldcSW (n := 5) (pc' := 13) (own := RX12) (tx := "and") rfl (by decide) dX12_readAllOf_10 rfl ?_
  obtain ⟨h1, h⟩ := h
  obtain ⟨d1, b1, Qz, hm, hdd, hb, hkx, hk⟩ := h
  refine z_callV (Y := mX12_passes) (n := 1) (as := [.ref (zp 1000 5)]) (st := []) (pc' := 16) (ci := 13) (q := q0) hm dX12_readAllOf_13 kX12_267 vX12_passes rfl rfl (by decide) rfl h1 hdd hb (Nat.le_of_ble_eq_true rfl) (fun r G2 hz => ?_) hkx
  obtain ⟨y1, rfl, h⟩ := hk r G2 hz
  refine z_if_eq (pt := 39) (pc' := 19) dX12_readAllOf_16 (by decide) rfl (fun hc => ?_) (fun hc => ?_)
  · have h := h.1 hc
    refine z_iconst (x := 1) (pc' := 40) dX12_readAllOf_39 (by decide) rfl ?_
    exact z_zret (ty := .boolean) dX12_readAllOf_40 rfl (by decide) h
  · have h := h.2 hc
    refine z_aload_n (pc' := 20) dX12_readAllOf_19 rfl rfl ?_
    obtain ⟨h1, h⟩ := h
    obtain ⟨d1, b1, Qz, hm, hdd, hb, hkx, hk⟩ := h
    refine z_callV (Y := mX12_readAtom) (n := 0) (as := []) (st := []) (pc' := 23) (ci := 13) (q := q0) hm dX12_readAllOf_20 kX12_270 vX12_readAtom rfl rfl (by decide) rfl h1 hdd hb (Nat.le_of_ble_eq_true rfl) (fun r G5 hz => ?_) hkx
    obtain ⟨y4, rfl, h⟩ := hk r G5 hz
    refine z_if_ne (pt := 28) (pc' := 26) dX12_readAllOf_23 (by decide) rfl (fun hc => ?_) (fun hc => ?_)
    · have h := h.1 hc
      refine z_aload_n (pc' := 29) dX12_readAllOf_28 rfl rfl ?_
      refine z_bipush (x := 101) (pc' := 31) dX12_readAllOf_29 (by decide) rfl ?_
      refine z_iconst (x := 0) (pc' := 32) dX12_readAllOf_31 (by decide) rfl ?_
      refine z_iconst (x := 0) (pc' := 33) dX12_readAllOf_32 (by decide) rfl ?_
      obtain ⟨h1, h⟩ := h
      obtain ⟨d1, b1, Qz, hm, hdd, hb, hkx, hk⟩ := h
      refine z_callV (Y := mX12_adds) (n := 3) (as := [.int 101, .int 0, .int 0]) (st := []) (pc' := 36) (ci := 13) (q := q0) hm dX12_readAllOf_33 kX12_273 vX12_adds rfl rfl (by decide) rfl h1 hdd hb (Nat.le_of_ble_eq_true rfl) (fun r G7 hz => ?_) hkx
      obtain ⟨rfl, h⟩ := hk r G7 hz
      refine z_goto (pc' := 9) dX12_readAllOf_36 (by decide) ?_
      exact z_dr (ls' := [some (.ref q0)]) ⟨rfl, trivial⟩ h
    · have h := h.2 hc
      refine z_iconst (x := 0) (pc' := 27) dX12_readAllOf_26 (by decide) rfl ?_
      exact z_zret (ty := .boolean) dX12_readAllOf_27 rfl (by decide) h
