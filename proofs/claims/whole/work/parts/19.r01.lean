/-! what the reference's methods come to, in its numbers -/
def rwp_X12_does_0 (E : ZE) (l : Launch) (d b : Nat) (A G : ZG) (Q : Option Value → ZS9 → Prop) (k : Nat) (x1 : Int32) (x2 : Int32) (S : ZS9) : Prop :=
  ((x1 = 0 →
    rcV E l mX12_sets d [.int x2, .int 2, .int (S 416 1)] S k (fun S1 k2 =>
    rcI E l mX12_lacksOf d [.int x2] S1 k2 (fun y5 S3 k4 =>
    ((¬ y5 = 0 →
      zW E l mX12_does d b A (rQ G Q) k4 54 [some (.ref (zp 416 0)), none, some (.int x2)] [.int 1, .int 0, .int x2, .ref (zp 416 0)] (zput G S3)) ∧
    (¬ (¬ y5 = 0) →
      zW E l mX12_does d b A (rQ G Q) k4 54 [some (.ref (zp 416 0)), none, some (.int x2)] [.int 2, .int 0, .int x2, .ref (zp 416 0)] (zput G S3)))))) ∧
  ((x1 = 1 →
    rcV E l mX12_checks d [.int x2] S k (fun S6 k7 =>
    Q none S6)) ∧
  ((x1 = 2 →
    rcV E l mX12_sets d [.int x2, .int 0, .int 5] S k (fun S8 k9 =>
    Q none S8)) ∧
  (¬ x1 = 0 → ¬ x1 = 1 → ¬ x1 = 2 →
    rcV E l mX12_prints d [.int x2] S k (fun S10 k11 =>
    Q none S10)))))
theorem rwpt_X12_does_0 {E : ZE} {l : Launch} {d b : Nat} {A G : ZG} {Q : Option Value → ZS9 → Prop} {k : Nat} {x1 : Int32} {x2 : Int32} {S : ZS9} (hK : RK G) (h : rwp_X12_does_0 E l d b A G Q k x1 x2 S) : zW E l mX12_does d b A (rQ G Q) k 0 [some (.ref (zp 416 0)), some (.int x1), some (.int x2)] [] (zput G S) := by
  unfold rwp_X12_does_0 at h
  refine z_iload_n (pc' := 1) dX12_does_0 rfl rfl ?_
  by_cases hc0 : x1 = 0
  · have h := h.1 hc0
    refine z_tableIn (off := 27) (pt := 28) dX12_does_1 (by rw [hc0]; decide) (by rw [hc0]; decide) (by rw [hc0]; decide) (by decide) ?_
    refine z_aload_n (pc' := 29) dX12_does_28 rfl rfl ?_
    refine z_iload_n (pc' := 30) dX12_does_29 rfl rfl ?_
    refine z_iconst (x := 2) (pc' := 31) dX12_does_30 (by decide) rfl ?_
    refine z_aload_n (pc' := 32) dX12_does_31 rfl rfl ?_
    refine r_getI (kf := 1) (pc' := 35) hK dX12_does_32 kX12_314 rfl (by decide) (by decide) rfl ?_
    refine r_callV (Y := mX12_sets) (n := 3) (as := [.int x2, .int 2, .int (S 416 1)]) (st := []) (pc' := 38) h hK dX12_does_35 kX12_425 vX12_sets rfl rfl rfl (Nat.le_of_ble_eq_true rfl) (fun S1 k2 h => ?_)
    refine z_aload_n (pc' := 39) dX12_does_38 rfl rfl ?_
    refine z_iload_n (pc' := 40) dX12_does_39 rfl rfl ?_
    refine z_iconst (x := 0) (pc' := 41) dX12_does_40 (by decide) rfl ?_
    refine z_aload_n (pc' := 42) dX12_does_41 rfl rfl ?_
    refine z_iload_n (pc' := 43) dX12_does_42 rfl rfl ?_
    refine r_callI (Y := mX12_lacksOf) (n := 1) (as := [.int x2]) (st := [.int 0, .int x2, .ref (zp 416 0)]) (pc' := 46) h hK dX12_does_43 kX12_437 vX12_lacksOf rfl rfl rfl (Nat.le_of_ble_eq_true rfl) (fun y5 S3 k4 h => ?_)
    refine z_if_ne (pt := 53) (pc' := 49) dX12_does_46 (by decide) rfl (fun hc => ?_) (fun hc => ?_)
    · have h := h.1 hc
      refine z_iconst (x := 1) (pc' := 54) dX12_does_53 (by decide) rfl ?_
      exact z_dr (ls' := [some (.ref (zp 416 0)), none, some (.int x2)]) ⟨rfl, rfl, trivial⟩ h
    · have h := h.2 hc
      refine z_iconst (x := 2) (pc' := 50) dX12_does_49 (by decide) rfl ?_
      refine z_goto (pc' := 54) dX12_does_50 (by decide) ?_
      exact z_dr (ls' := [some (.ref (zp 416 0)), none, some (.int x2)]) ⟨rfl, rfl, trivial⟩ h
  have h := h.2
  by_cases hc1 : x1 = 1
  · have h := h.1 hc1
    refine z_tableIn (off := 85) (pt := 86) dX12_does_1 (by rw [hc1]; decide) (by rw [hc1]; decide) (by rw [hc1]; decide) (by decide) ?_
    refine z_aload_n (pc' := 87) dX12_does_86 rfl rfl ?_
    refine z_iload_n (pc' := 88) dX12_does_87 rfl rfl ?_
    refine r_callV (Y := mX12_checks) (n := 1) (as := [.int x2]) (st := []) (pc' := 91) h hK dX12_does_88 kX12_440 vX12_checks rfl rfl rfl (Nat.le_of_ble_eq_true rfl) (fun S6 k7 h => ?_)
    refine z_goto (pc' := 109) dX12_does_91 (by decide) ?_
    exact z_vret dX12_does_109 rfl ⟨_, _, rfl, rfl, h⟩
  have h := h.2
  by_cases hc2 : x1 = 2
  · have h := h.1 hc2
    refine z_tableIn (off := 93) (pt := 94) dX12_does_1 (by rw [hc2]; decide) (by rw [hc2]; decide) (by rw [hc2]; decide) (by decide) ?_
    refine z_aload_n (pc' := 95) dX12_does_94 rfl rfl ?_
    refine z_iload_n (pc' := 96) dX12_does_95 rfl rfl ?_
    refine z_iconst (x := 0) (pc' := 97) dX12_does_96 (by decide) rfl ?_
    refine z_iconst (x := 5) (pc' := 98) dX12_does_97 (by decide) rfl ?_
    refine r_callV (Y := mX12_sets) (n := 3) (as := [.int x2, .int 0, .int 5]) (st := []) (pc' := 101) h hK dX12_does_98 kX12_425 vX12_sets rfl rfl rfl (Nat.le_of_ble_eq_true rfl) (fun S8 k9 h => ?_)
    refine z_goto (pc' := 109) dX12_does_101 (by decide) ?_
    exact z_vret dX12_does_109 rfl ⟨_, _, rfl, rfl, h⟩
  have h := h.2
  have h := h hc0 hc1 hc2
  refine z_tableOut (pt := 104) dX12_does_1 (by have e0 := lv_neT (a := 0) hc0 (by decide); have e1 := lv_neT (a := 1) hc1 (by decide); have e2 := lv_neT (a := 2) hc2 (by decide); omega) (by decide) ?_
  refine z_aload_n (pc' := 105) dX12_does_104 rfl rfl ?_
  refine z_iload_n (pc' := 106) dX12_does_105 rfl rfl ?_
  refine r_callV (Y := mX12_prints) (n := 1) (as := [.int x2]) (st := []) (pc' := 109) h hK dX12_does_106 kX12_462 vX12_prints rfl rfl rfl (Nat.le_of_ble_eq_true rfl) (fun S10 k11 h => ?_)
  exact z_vret dX12_does_109 rfl ⟨_, _, rfl, rfl, h⟩
def rwp_X12_does_54 (E : ZE) (l : Launch) (d b : Nat) (A G : ZG) (Q : Option Value → ZS9 → Prop) (k : Nat) (x2 : Int32) (s0 : Int32) (s1 : Int32) (s2 : Int32) (S : ZS9) : Prop :=
  rcV E l mX12_sets d [.int s2, .int s1, .int s0] S k (fun S1 k2 =>
  rcI E l mX12_now d [.int x2, .int 5] S1 k2 (fun y5 S3 k4 =>
  rcI E l mX12_lacksOf d [.int x2] S3 k4 (fun y8 S6 k7 =>
  ((¬ y8 = 0 →
    rcV E l mX12_sets d [.int x2, .int 5, .int (y5 + 1)] S6 k7 (fun S9 k10 =>
    Q none S9)) ∧
  (¬ (¬ y8 = 0) →
    rcV E l mX12_sets d [.int x2, .int 5, .int (y5 + 0)] S6 k7 (fun S11 k12 =>
    Q none S11))))))
theorem rwpt_X12_does_54 {E : ZE} {l : Launch} {d b : Nat} {A G : ZG} {Q : Option Value → ZS9 → Prop} {k : Nat} {x2 : Int32} {s0 : Int32} {s1 : Int32} {s2 : Int32} {S : ZS9} (hK : RK G) (h : rwp_X12_does_54 E l d b A G Q k x2 s0 s1 s2 S) : zW E l mX12_does d b A (rQ G Q) k 54 [some (.ref (zp 416 0)), none, some (.int x2)] [.int s0, .int s1, .int s2, .ref (zp 416 0)] (zput G S) := by
  unfold rwp_X12_does_54 at h
  refine r_callV (Y := mX12_sets) (n := 3) (as := [.int s2, .int s1, .int s0]) (st := []) (pc' := 57) h hK dX12_does_54 kX12_425 vX12_sets rfl rfl rfl (Nat.le_of_ble_eq_true rfl) (fun S1 k2 h => ?_)
  refine z_aload_n (pc' := 58) dX12_does_57 rfl rfl ?_
  refine z_iload_n (pc' := 59) dX12_does_58 rfl rfl ?_
  refine z_iconst (x := 5) (pc' := 60) dX12_does_59 (by decide) rfl ?_
  refine z_aload_n (pc' := 61) dX12_does_60 rfl rfl ?_
  refine z_iload_n (pc' := 62) dX12_does_61 rfl rfl ?_
  refine z_iconst (x := 5) (pc' := 63) dX12_does_62 (by decide) rfl ?_
  refine r_callI (Y := mX12_now) (n := 2) (as := [.int x2, .int 5]) (st := [.int 5, .int x2, .ref (zp 416 0)]) (pc' := 66) h hK dX12_does_63 kX12_434 vX12_now rfl rfl rfl (Nat.le_of_ble_eq_true rfl) (fun y5 S3 k4 h => ?_)
  refine z_aload_n (pc' := 67) dX12_does_66 rfl rfl ?_
  refine z_iload_n (pc' := 68) dX12_does_67 rfl rfl ?_
  refine r_callI (Y := mX12_lacksOf) (n := 1) (as := [.int x2]) (st := [.int y5, .int 5, .int x2, .ref (zp 416 0)]) (pc' := 71) h hK dX12_does_68 kX12_437 vX12_lacksOf rfl rfl rfl (Nat.le_of_ble_eq_true rfl) (fun y8 S6 k7 h => ?_)
  refine z_if_ne (pt := 78) (pc' := 74) dX12_does_71 (by decide) rfl (fun hc => ?_) (fun hc => ?_)
  · have h := h.1 hc
    refine z_iconst (x := 1) (pc' := 79) dX12_does_78 (by decide) rfl ?_
    refine z_iadd (pc' := 80) dX12_does_79 rfl rfl ?_
    refine r_callV (Y := mX12_sets) (n := 3) (as := [.int x2, .int 5, .int (y5 + 1)]) (st := []) (pc' := 83) h hK dX12_does_80 kX12_425 vX12_sets rfl rfl rfl (Nat.le_of_ble_eq_true rfl) (fun S9 k10 h => ?_)
    refine z_goto (pc' := 109) dX12_does_83 (by decide) ?_
    exact z_vret dX12_does_109 rfl ⟨_, _, rfl, rfl, h⟩
  · have h := h.2 hc
    refine z_iconst (x := 0) (pc' := 75) dX12_does_74 (by decide) rfl ?_
    refine z_goto (pc' := 79) dX12_does_75 (by decide) ?_
    refine z_iadd (pc' := 80) dX12_does_79 rfl rfl ?_
    refine r_callV (Y := mX12_sets) (n := 3) (as := [.int x2, .int 5, .int (y5 + 0)]) (st := []) (pc' := 83) h hK dX12_does_80 kX12_425 vX12_sets rfl rfl rfl (Nat.le_of_ble_eq_true rfl) (fun S11 k12 h => ?_)
    refine z_goto (pc' := 109) dX12_does_83 (by decide) ?_
    exact z_vret dX12_does_109 rfl ⟨_, _, rfl, rfl, h⟩
def rwp_X12_end_0 (E : ZE) (l : Launch) (d b : Nat) (A G : ZG) (Q : Option Value → ZS9 → Prop) (k : Nat) (x1 : Int32) (S : ZS9) : Prop :=
  ∀ S1, S1 = zup S 416 0 0 →
  ((x1 < 0 →
    Q (some (.int 0)) S1) ∧
  (¬ (x1 < 0) →
    ((x1 ≤ (S1 416 3) →
      ∀ S2, S2 = zup S1 416 3 x1 →
      Q (some (.int 1)) S2) ∧
    (¬ (x1 ≤ (S1 416 3)) →
      Q (some (.int 0)) S1))))
theorem rwpt_X12_end_0 {E : ZE} {l : Launch} {d b : Nat} {A G : ZG} {Q : Option Value → ZS9 → Prop} {k : Nat} {x1 : Int32} {S : ZS9} (hK : RK G) (h : rwp_X12_end_0 E l d b A G Q k x1 S) : zW E l mX12_end d b A (rQ G Q) k 0 [some (.ref (zp 416 0)), some (.int x1)] [] (zput G S) := by
  unfold rwp_X12_end_0 at h
  refine z_aload_n (pc' := 1) dX12_end_0 rfl rfl ?_
  refine z_iconst (x := 0) (pc' := 2) dX12_end_1 (by decide) rfl ?_
  obtain ⟨S1, hG⟩ : ∃ z, z = zup S 416 0 0 := ⟨_, rfl⟩
  have h := h _ hG
  refine r_putI (kf := 0) (pc' := 5) hK dX12_end_2 kX12_178 rfl (by decide) (by decide) rfl rfl (zok_int _) ?_
  refine r_st hG ?_
  refine z_iload_n (pc' := 6) dX12_end_5 rfl rfl ?_
  refine z_if_lt (pt := 17) (pc' := 9) dX12_end_6 (by decide) rfl (fun hc => ?_) (fun hc => ?_)
  · have h := h.1 hc
    refine z_iconst (x := 0) (pc' := 18) dX12_end_17 (by decide) rfl ?_
    exact z_zret (ty := .boolean) dX12_end_18 rfl (by decide) ⟨_, _, rfl, rfl, h⟩
  · have h := h.2 hc
    refine z_iload_n (pc' := 10) dX12_end_9 rfl rfl ?_
    refine z_aload_n (pc' := 11) dX12_end_10 rfl rfl ?_
    refine r_getI (kf := 3) (pc' := 14) hK dX12_end_11 kX12_181 rfl (by decide) (by decide) rfl ?_
    refine z_icmp_le (pt := 19) (pc' := 17) dX12_end_14 (by decide) rfl (fun hc => ?_) (fun hc => ?_)
    · have h := h.1 hc
      refine z_aload_n (pc' := 20) dX12_end_19 rfl rfl ?_
      refine z_iload_n (pc' := 21) dX12_end_20 rfl rfl ?_
      obtain ⟨S2, hG⟩ : ∃ z, z = zup S1 416 3 x1 := ⟨_, rfl⟩
      have h := h _ hG
      refine r_putI (kf := 3) (pc' := 24) hK dX12_end_21 kX12_181 rfl (by decide) (by decide) rfl rfl (zok_int _) ?_
      refine r_st hG ?_
      refine z_iconst (x := 1) (pc' := 25) dX12_end_24 (by decide) rfl ?_
      exact z_zret (ty := .boolean) dX12_end_25 rfl (by decide) ⟨_, _, rfl, rfl, h⟩
    · have h := h.2 hc
      refine z_iconst (x := 0) (pc' := 18) dX12_end_17 (by decide) rfl ?_
      exact z_zret (ty := .boolean) dX12_end_18 rfl (by decide) ⟨_, _, rfl, rfl, h⟩
def rwp_X12_ends_0 (E : ZE) (l : Launch) (d b : Nat) (A G : ZG) (Q : Option Value → ZS9 → Prop) (k : Nat) (x1 : Int32) (x2 : Int32) (S : ZS9) : Prop :=
  ∀ S1, S1 = zup S 416 0 0 →
  zW E l mX12_ends d b A (rQ G Q) k 10 [some (.ref (zp 416 0)), some (.int x1), some (.int x2), some (.int 0), some (.int 0)] [] (zput G S1)
theorem rwpt_X12_ends_0 {E : ZE} {l : Launch} {d b : Nat} {A G : ZG} {Q : Option Value → ZS9 → Prop} {k : Nat} {x1 : Int32} {x2 : Int32} {S : ZS9} (hK : RK G) (h : rwp_X12_ends_0 E l d b A G Q k x1 x2 S) : zW E l mX12_ends d b A (rQ G Q) k 0 [some (.ref (zp 416 0)), some (.int x1), some (.int x2), none, none] [] (zput G S) := by
  unfold rwp_X12_ends_0 at h
  refine z_aload_n (pc' := 1) dX12_ends_0 rfl rfl ?_
  refine z_iconst (x := 0) (pc' := 2) dX12_ends_1 (by decide) rfl ?_
  obtain ⟨S1, hG⟩ : ∃ z, z = zup S 416 0 0 := ⟨_, rfl⟩
  have h := h _ hG
  refine r_putI (kf := 0) (pc' := 5) hK dX12_ends_2 kX12_178 rfl (by decide) (by decide) rfl rfl (zok_int _) ?_
  refine r_st hG ?_
  refine z_iconst (x := 0) (pc' := 6) dX12_ends_5 (by decide) rfl ?_
  refine z_istore_n (pc' := 7) dX12_ends_6 (by decide) rfl ?_
  refine z_iconst (x := 0) (pc' := 8) dX12_ends_7 (by decide) rfl ?_
  refine z_istore (pc' := 10) dX12_ends_8 (by decide) rfl ?_
  exact z_dr (ls' := [some (.ref (zp 416 0)), some (.int x1), some (.int x2), some (.int 0), some (.int 0)]) ⟨rfl, rfl, rfl, rfl, rfl, trivial⟩ h
def rwp_X12_ends_10 (E : ZE) (l : Launch) (d b : Nat) (A G : ZG) (Q : Option Value → ZS9 → Prop) (k : Nat) (x1 : Int32) (x2 : Int32) (x3 : Int32) (x4 : Int32) (S : ZS9) : Prop :=
  (((S 416 71) ≤ x4 →
    Q (some (.int x3)) S) ∧
  (¬ ((S 416 71) ≤ x4) →
    vp_in x4 150 ∧
    scI E l mX12_in d [.int (S 1169 x4.toNatClampNeg), .int x1, .int x2] (fun y1 =>
    ((y1 = 0 →
      zW E l mX12_ends d b A (rQ G Q) k 10 [some (.ref (zp 416 0)), some (.int x1), some (.int x2), some (.int (x3 + 0)), some (.int (x4 + 1))] [] (zput G S)) ∧
    (¬ (y1 = 0) →
      zW E l mX12_ends d b A (rQ G Q) k 10 [some (.ref (zp 416 0)), some (.int x1), some (.int x2), some (.int (x3 + 1)), some (.int (x4 + 1))] [] (zput G S))))))
theorem rwpt_X12_ends_10 {E : ZE} {l : Launch} {d b : Nat} {A G : ZG} {Q : Option Value → ZS9 → Prop} {k : Nat} {x1 : Int32} {x2 : Int32} {x3 : Int32} {x4 : Int32} {S : ZS9} (hK : RK G) (h : rwp_X12_ends_10 E l d b A G Q k x1 x2 x3 x4 S) : zW E l mX12_ends d b A (rQ G Q) k 10 [some (.ref (zp 416 0)), some (.int x1), some (.int x2), some (.int x3), some (.int x4)] [] (zput G S) := by
  unfold rwp_X12_ends_10 at h
  refine z_iload (pc' := 12) dX12_ends_10 rfl rfl ?_
  refine z_aload_n (pc' := 13) dX12_ends_12 rfl rfl ?_
  refine r_getI (kf := 71) (pc' := 16) hK dX12_ends_13 kX12_415 rfl (by decide) (by decide) rfl ?_
  refine z_icmp_ge (pt := 48) (pc' := 19) dX12_ends_16 (by decide) rfl (fun hc => ?_) (fun hc => ?_)
  · have h := h.1 hc
    refine z_iload_n (pc' := 49) dX12_ends_48 rfl rfl ?_
    exact z_iret dX12_ends_49 rfl ⟨_, _, rfl, rfl, h⟩
  · have h := h.2 hc
    refine z_iload_n (pc' := 20) dX12_ends_19 rfl rfl ?_
    refine z_aload_n (pc' := 21) dX12_ends_20 rfl rfl ?_
    refine r_getA (kf := 69) (pc' := 24) hK rt_69 dX12_ends_21 kX12_157 rfl (by decide) (by decide) rfl ?_
    refine z_iload (pc' := 26) dX12_ends_24 rfl rfl ?_
    obtain ⟨h1, h⟩ := h
    refine r_iald (pc' := 27) hK rt_69 rfl dX12_ends_26 rfl h1 ?_
    refine z_iload_n (pc' := 28) dX12_ends_27 rfl rfl ?_
    refine z_iload_n (pc' := 29) dX12_ends_28 rfl rfl ?_
    refine r_callSI (Y := mX12_in) (n := 3) (as := [.int (S 1169 x4.toNatClampNeg), .int x1, .int x2]) (st := [.int x3]) (pc' := 32) h dX12_ends_29 kX12_317 sX12_in rfl rfl (Nat.le_of_ble_eq_true rfl) (fun y1 h => ?_)
    refine z_if_eq (pt := 39) (pc' := 35) dX12_ends_32 (by decide) rfl (fun hc => ?_) (fun hc => ?_)
    · have h := h.1 hc
      refine z_iconst (x := 0) (pc' := 40) dX12_ends_39 (by decide) rfl ?_
      refine z_iadd (pc' := 41) dX12_ends_40 rfl rfl ?_
      refine z_istore_n (pc' := 42) dX12_ends_41 (by decide) rfl ?_
      refine z_iinc (y := x4 + 1) (pc' := 45) dX12_ends_42 rfl (zinc_1 _) (by decide) rfl ?_
      refine z_goto (pc' := 10) dX12_ends_45 (by decide) ?_
      exact z_dr (ls' := [some (.ref (zp 416 0)), some (.int x1), some (.int x2), some (.int (x3 + 0)), some (.int (x4 + 1))]) ⟨rfl, rfl, rfl, rfl, rfl, trivial⟩ h
    · have h := h.2 hc
      refine z_iconst (x := 1) (pc' := 36) dX12_ends_35 (by decide) rfl ?_
      refine z_goto (pc' := 40) dX12_ends_36 (by decide) ?_
      refine z_iadd (pc' := 41) dX12_ends_40 rfl rfl ?_
      refine z_istore_n (pc' := 42) dX12_ends_41 (by decide) rfl ?_
      refine z_iinc (y := x4 + 1) (pc' := 45) dX12_ends_42 rfl (zinc_1 _) (by decide) rfl ?_
      refine z_goto (pc' := 10) dX12_ends_45 (by decide) ?_
      exact z_dr (ls' := [some (.ref (zp 416 0)), some (.int x1), some (.int x2), some (.int (x3 + 1)), some (.int (x4 + 1))]) ⟨rfl, rfl, rfl, rfl, rfl, trivial⟩ h
def rwp_X12_far_0 (E : ZE) (l : Launch) (d b : Nat) (A G : ZG) (Q : Option Value → ZS9 → Prop) (k : Nat) (x1 : Int32) (x2 : Int32) (S : ZS9) : Prop :=
  ∀ S1, S1 = zup S 416 0 0 →
  rcI E l mX12_nobody d [.int x1] S1 k (fun y4 S2 k3 =>
  ((¬ y4 = 0 →
    rcI E l mX12_throwsIf d [.int 1, .int 1] S2 k3 (fun y7 S5 k6 =>
    ((y7 = 0 →
      rcI E l mX12_farOf d [.int x1, .int x2] S5 k6 (fun y10 S8 k9 =>
      Q (some (.int y10)) S8)) ∧
    (¬ (y7 = 0) →
      Q (some (.int 0)) S5)))) ∧
  (¬ (¬ y4 = 0) →
    rcI E l mX12_nobody d [.int x2] S2 k3 (fun y13 S11 k12 =>
    ((y13 = 0 →
      rcI E l mX12_throwsIf d [.int 0, .int 1] S11 k12 (fun y16 S14 k15 =>
      ((y16 = 0 →
        rcI E l mX12_farOf d [.int x1, .int x2] S14 k15 (fun y19 S17 k18 =>
        Q (some (.int y19)) S17)) ∧
      (¬ (y16 = 0) →
        Q (some (.int 0)) S14)))) ∧
    (¬ (y13 = 0) →
      rcI E l mX12_throwsIf d [.int 1, .int 1] S11 k12 (fun y22 S20 k21 =>
      ((y22 = 0 →
        rcI E l mX12_farOf d [.int x1, .int x2] S20 k21 (fun y25 S23 k24 =>
        Q (some (.int y25)) S23)) ∧
      (¬ (y22 = 0) →
        Q (some (.int 0)) S20)))))))))
theorem rwpt_X12_far_0 {E : ZE} {l : Launch} {d b : Nat} {A G : ZG} {Q : Option Value → ZS9 → Prop} {k : Nat} {x1 : Int32} {x2 : Int32} {S : ZS9} (hK : RK G) (h : rwp_X12_far_0 E l d b A G Q k x1 x2 S) : zW E l mX12_far d b A (rQ G Q) k 0 [some (.ref (zp 416 0)), some (.int x1), some (.int x2)] [] (zput G S) := by
  unfold rwp_X12_far_0 at h
  refine z_aload_n (pc' := 1) dX12_far_0 rfl rfl ?_
  refine z_iconst (x := 0) (pc' := 2) dX12_far_1 (by decide) rfl ?_
  obtain ⟨S1, hG⟩ : ∃ z, z = zup S 416 0 0 := ⟨_, rfl⟩
  have h := h _ hG
  refine r_putI (kf := 0) (pc' := 5) hK dX12_far_2 kX12_178 rfl (by decide) (by decide) rfl rfl (zok_int _) ?_
  refine r_st hG ?_
  refine z_aload_n (pc' := 6) dX12_far_5 rfl rfl ?_
  refine z_aload_n (pc' := 7) dX12_far_6 rfl rfl ?_
  refine z_iload_n (pc' := 8) dX12_far_7 rfl rfl ?_
  refine r_callI (Y := mX12_nobody) (n := 1) (as := [.int x1]) (st := [.ref (zp 416 0)]) (pc' := 11) h hK dX12_far_8 kX12_385 vX12_nobody rfl rfl rfl (Nat.le_of_ble_eq_true rfl) (fun y4 S2 k3 h => ?_)
  refine z_if_ne (pt := 22) (pc' := 14) dX12_far_11 (by decide) rfl (fun hc => ?_) (fun hc => ?_)
  · have h := h.1 hc
    refine z_iconst (x := 1) (pc' := 23) dX12_far_22 (by decide) rfl ?_
    refine z_goto (pc' := 27) dX12_far_23 (by decide) ?_
    refine z_iconst (x := 1) (pc' := 28) dX12_far_27 (by decide) rfl ?_
    refine r_callI (Y := mX12_throwsIf) (n := 2) (as := [.int 1, .int 1]) (st := []) (pc' := 31) h hK dX12_far_28 kX12_321 vX12_throwsIf rfl rfl rfl (Nat.le_of_ble_eq_true rfl) (fun y7 S5 k6 h => ?_)
    refine z_if_eq (pt := 38) (pc' := 34) dX12_far_31 (by decide) rfl (fun hc => ?_) (fun hc => ?_)
    · have h := h.1 hc
      refine z_aload_n (pc' := 39) dX12_far_38 rfl rfl ?_
      refine z_iload_n (pc' := 40) dX12_far_39 rfl rfl ?_
      refine z_iload_n (pc' := 41) dX12_far_40 rfl rfl ?_
      refine r_callI (Y := mX12_farOf) (n := 2) (as := [.int x1, .int x2]) (st := []) (pc' := 44) h hK dX12_far_41 kX12_391 vX12_farOf rfl rfl rfl (Nat.le_of_ble_eq_true rfl) (fun y10 S8 k9 h => ?_)
      exact z_iret dX12_far_44 rfl ⟨_, _, rfl, rfl, h⟩
    · have h := h.2 hc
      refine z_iconst (x := 0) (pc' := 35) dX12_far_34 (by decide) rfl ?_
      refine z_goto (pc' := 44) dX12_far_35 (by decide) ?_
      exact z_iret dX12_far_44 rfl ⟨_, _, rfl, rfl, h⟩
  · have h := h.2 hc
    refine z_aload_n (pc' := 15) dX12_far_14 rfl rfl ?_
    refine z_iload_n (pc' := 16) dX12_far_15 rfl rfl ?_
    refine r_callI (Y := mX12_nobody) (n := 1) (as := [.int x2]) (st := [.ref (zp 416 0)]) (pc' := 19) h hK dX12_far_16 kX12_385 vX12_nobody rfl rfl rfl (Nat.le_of_ble_eq_true rfl) (fun y13 S11 k12 h => ?_)
    refine z_if_eq (pt := 26) (pc' := 22) dX12_far_19 (by decide) rfl (fun hc => ?_) (fun hc => ?_)
    · have h := h.1 hc
      refine z_iconst (x := 0) (pc' := 27) dX12_far_26 (by decide) rfl ?_
      refine z_iconst (x := 1) (pc' := 28) dX12_far_27 (by decide) rfl ?_
      refine r_callI (Y := mX12_throwsIf) (n := 2) (as := [.int 0, .int 1]) (st := []) (pc' := 31) h hK dX12_far_28 kX12_321 vX12_throwsIf rfl rfl rfl (Nat.le_of_ble_eq_true rfl) (fun y16 S14 k15 h => ?_)
      refine z_if_eq (pt := 38) (pc' := 34) dX12_far_31 (by decide) rfl (fun hc => ?_) (fun hc => ?_)
      · have h := h.1 hc
        refine z_aload_n (pc' := 39) dX12_far_38 rfl rfl ?_
        refine z_iload_n (pc' := 40) dX12_far_39 rfl rfl ?_
        refine z_iload_n (pc' := 41) dX12_far_40 rfl rfl ?_
        refine r_callI (Y := mX12_farOf) (n := 2) (as := [.int x1, .int x2]) (st := []) (pc' := 44) h hK dX12_far_41 kX12_391 vX12_farOf rfl rfl rfl (Nat.le_of_ble_eq_true rfl) (fun y19 S17 k18 h => ?_)
        exact z_iret dX12_far_44 rfl ⟨_, _, rfl, rfl, h⟩
      · have h := h.2 hc
        refine z_iconst (x := 0) (pc' := 35) dX12_far_34 (by decide) rfl ?_
        refine z_goto (pc' := 44) dX12_far_35 (by decide) ?_
        exact z_iret dX12_far_44 rfl ⟨_, _, rfl, rfl, h⟩
    · have h := h.2 hc
      refine z_iconst (x := 1) (pc' := 23) dX12_far_22 (by decide) rfl ?_
      refine z_goto (pc' := 27) dX12_far_23 (by decide) ?_
      refine z_iconst (x := 1) (pc' := 28) dX12_far_27 (by decide) rfl ?_
      refine r_callI (Y := mX12_throwsIf) (n := 2) (as := [.int 1, .int 1]) (st := []) (pc' := 31) h hK dX12_far_28 kX12_321 vX12_throwsIf rfl rfl rfl (Nat.le_of_ble_eq_true rfl) (fun y22 S20 k21 h => ?_)
      refine z_if_eq (pt := 38) (pc' := 34) dX12_far_31 (by decide) rfl (fun hc => ?_) (fun hc => ?_)
      · have h := h.1 hc
        refine z_aload_n (pc' := 39) dX12_far_38 rfl rfl ?_
        refine z_iload_n (pc' := 40) dX12_far_39 rfl rfl ?_
        refine z_iload_n (pc' := 41) dX12_far_40 rfl rfl ?_
        refine r_callI (Y := mX12_farOf) (n := 2) (as := [.int x1, .int x2]) (st := []) (pc' := 44) h hK dX12_far_41 kX12_391 vX12_farOf rfl rfl rfl (Nat.le_of_ble_eq_true rfl) (fun y25 S23 k24 h => ?_)
        exact z_iret dX12_far_44 rfl ⟨_, _, rfl, rfl, h⟩
      · have h := h.2 hc
        refine z_iconst (x := 0) (pc' := 35) dX12_far_34 (by decide) rfl ?_
        refine z_goto (pc' := 44) dX12_far_35 (by decide) ?_
        exact z_iret dX12_far_44 rfl ⟨_, _, rfl, rfl, h⟩
def rwp_X12_farOf_0 (E : ZE) (l : Launch) (d b : Nat) (A G : ZG) (Q : Option Value → ZS9 → Prop) (k : Nat) (x1 : Int32) (x2 : Int32) (S : ZS9) : Prop :=
  zW E l mX12_farOf d b A (rQ G Q) k 5 [some (.ref (zp 416 0)), some (.int x1), some (.int x2), some (.int 0), some (.int 0), none] [] (zput G S)
theorem rwpt_X12_farOf_0 {E : ZE} {l : Launch} {d b : Nat} {A G : ZG} {Q : Option Value → ZS9 → Prop} {k : Nat} {x1 : Int32} {x2 : Int32} {S : ZS9} (hK : RK G) (h : rwp_X12_farOf_0 E l d b A G Q k x1 x2 S) : zW E l mX12_farOf d b A (rQ G Q) k 0 [some (.ref (zp 416 0)), some (.int x1), some (.int x2), none, none, none] [] (zput G S) := by
  unfold rwp_X12_farOf_0 at h
  refine z_iconst (x := 0) (pc' := 1) dX12_farOf_0 (by decide) rfl ?_
  refine z_istore_n (pc' := 2) dX12_farOf_1 (by decide) rfl ?_
  refine z_iconst (x := 0) (pc' := 3) dX12_farOf_2 (by decide) rfl ?_
  refine z_istore (pc' := 5) dX12_farOf_3 (by decide) rfl ?_
  exact z_dr (ls' := [some (.ref (zp 416 0)), some (.int x1), some (.int x2), some (.int 0), some (.int 0), none]) ⟨rfl, rfl, rfl, rfl, rfl, trivial⟩ h
def rwp_X12_farOf_5 (E : ZE) (l : Launch) (d b : Nat) (A G : ZG) (Q : Option Value → ZS9 → Prop) (k : Nat) (x1 : Int32) (x2 : Int32) (x3 : Int32) (x4 : Int32) (S : ZS9) : Prop :=
  ((5 ≤ x4 →
    Q (some (.int x3)) S) ∧
  (¬ (5 ≤ x4) →
    vp_in ((5 * x1) + x4) 400 ∧
    vp_in ((5 * x2) + x4) 400 ∧
    zW E l mX12_farOf d b A (rQ G Q) k 5 [some (.ref (zp 416 0)), some (.int x1), some (.int x2), some (.int (x3 + (((S 1131 ((5 * x1) + x4).toNatClampNeg) - (S 1131 ((5 * x2) + x4).toNatClampNeg)) * ((S 1131 ((5 * x1) + x4).toNatClampNeg) - (S 1131 ((5 * x2) + x4).toNatClampNeg))))), some (.int (x4 + 1)), none] [] (zput G S)))
theorem rwpt_X12_farOf_5 {E : ZE} {l : Launch} {d b : Nat} {A G : ZG} {Q : Option Value → ZS9 → Prop} {k : Nat} {x1 : Int32} {x2 : Int32} {x3 : Int32} {x4 : Int32} {S : ZS9} (hK : RK G) (h : rwp_X12_farOf_5 E l d b A G Q k x1 x2 x3 x4 S) : zW E l mX12_farOf d b A (rQ G Q) k 5 [some (.ref (zp 416 0)), some (.int x1), some (.int x2), some (.int x3), some (.int x4), none] [] (zput G S) := by
  unfold rwp_X12_farOf_5 at h
  refine z_iload (pc' := 7) dX12_farOf_5 rfl rfl ?_
  refine z_iconst (x := 5) (pc' := 8) dX12_farOf_7 (by decide) rfl ?_
  refine z_icmp_ge (pt := 50) (pc' := 11) dX12_farOf_8 (by decide) rfl (fun hc => ?_) (fun hc => ?_)
  · have h := h.1 hc
    refine z_iload_n (pc' := 51) dX12_farOf_50 rfl rfl ?_
    exact z_iret dX12_farOf_51 rfl ⟨_, _, rfl, rfl, h⟩
  · have h := h.2 hc
    refine z_aload_n (pc' := 12) dX12_farOf_11 rfl rfl ?_
    refine r_getA (kf := 31) (pc' := 15) hK rt_31 dX12_farOf_12 kX12_61 rfl (by decide) (by decide) rfl ?_
    refine z_iconst (x := 5) (pc' := 16) dX12_farOf_15 (by decide) rfl ?_
    refine z_iload_n (pc' := 17) dX12_farOf_16 rfl rfl ?_
    refine z_imul (pc' := 18) dX12_farOf_17 rfl rfl ?_
    refine z_iload (pc' := 20) dX12_farOf_18 rfl rfl ?_
    refine z_iadd (pc' := 21) dX12_farOf_20 rfl rfl ?_
    obtain ⟨h1, h⟩ := h
    refine r_iald (pc' := 22) hK rt_31 rfl dX12_farOf_21 rfl h1 ?_
    refine z_aload_n (pc' := 23) dX12_farOf_22 rfl rfl ?_
    refine r_getA (kf := 31) (pc' := 26) hK rt_31 dX12_farOf_23 kX12_61 rfl (by decide) (by decide) rfl ?_
    refine z_iconst (x := 5) (pc' := 27) dX12_farOf_26 (by decide) rfl ?_
    refine z_iload_n (pc' := 28) dX12_farOf_27 rfl rfl ?_
    refine z_imul (pc' := 29) dX12_farOf_28 rfl rfl ?_
    refine z_iload (pc' := 31) dX12_farOf_29 rfl rfl ?_
    refine z_iadd (pc' := 32) dX12_farOf_31 rfl rfl ?_
    obtain ⟨h1, h⟩ := h
    refine r_iald (pc' := 33) hK rt_31 rfl dX12_farOf_32 rfl h1 ?_
    refine z_isub (pc' := 34) dX12_farOf_33 rfl rfl ?_
    refine z_istore (pc' := 36) dX12_farOf_34 (by decide) rfl ?_
    refine z_iload_n (pc' := 37) dX12_farOf_36 rfl rfl ?_
    refine z_iload (pc' := 39) dX12_farOf_37 rfl rfl ?_
    refine z_iload (pc' := 41) dX12_farOf_39 rfl rfl ?_
    refine z_imul (pc' := 42) dX12_farOf_41 rfl rfl ?_
    refine z_iadd (pc' := 43) dX12_farOf_42 rfl rfl ?_
    refine z_istore_n (pc' := 44) dX12_farOf_43 (by decide) rfl ?_
    refine z_iinc (y := x4 + 1) (pc' := 47) dX12_farOf_44 rfl (zinc_1 _) (by decide) rfl ?_
    refine z_goto (pc' := 5) dX12_farOf_47 (by decide) ?_
    exact z_dr (ls' := [some (.ref (zp 416 0)), some (.int x1), some (.int x2), some (.int (x3 + (((S 1131 ((5 * x1) + x4).toNatClampNeg) - (S 1131 ((5 * x2) + x4).toNatClampNeg)) * ((S 1131 ((5 * x1) + x4).toNatClampNeg) - (S 1131 ((5 * x2) + x4).toNatClampNeg))))), some (.int (x4 + 1)), none]) ⟨rfl, rfl, rfl, rfl, rfl, trivial⟩ h
def rwp_X12_fault_0 (E : ZE) (l : Launch) (d b : Nat) (A G : ZG) (Q : Option Value → ZS9 → Prop) (k : Nat)  (S : ZS9) : Prop :=
  ∀ S1, S1 = zup S 416 0 0 →
  Q (some (.int (S1 416 8))) S1
theorem rwpt_X12_fault_0 {E : ZE} {l : Launch} {d b : Nat} {A G : ZG} {Q : Option Value → ZS9 → Prop} {k : Nat}  {S : ZS9} (hK : RK G) (h : rwp_X12_fault_0 E l d b A G Q k  S) : zW E l mX12_fault d b A (rQ G Q) k 0 [some (.ref (zp 416 0))] [] (zput G S) := by
  unfold rwp_X12_fault_0 at h
  refine z_aload_n (pc' := 1) dX12_fault_0 rfl rfl ?_
  refine z_iconst (x := 0) (pc' := 2) dX12_fault_1 (by decide) rfl ?_
  obtain ⟨S1, hG⟩ : ∃ z, z = zup S 416 0 0 := ⟨_, rfl⟩
  have h := h _ hG
  refine r_putI (kf := 0) (pc' := 5) hK dX12_fault_2 kX12_178 rfl (by decide) (by decide) rfl rfl (zok_int _) ?_
  refine r_st hG ?_
  refine z_aload_n (pc' := 6) dX12_fault_5 rfl rfl ?_
  refine r_getI (kf := 8) (pc' := 9) hK dX12_fault_6 kX12_13 rfl (by decide) (by decide) rfl ?_
  exact z_iret dX12_fault_9 rfl ⟨_, _, rfl, rfl, h⟩
def rwp_X12_feed_0 (E : ZE) (l : Launch) (d b : Nat) (A G : ZG) (Q : Option Value → ZS9 → Prop) (k : Nat) (x1 : Int32) (x2 : Int32) (x3 : Int32) (x4 : Int32) (x5 : Int32) (S : ZS9) : Prop :=
  ∀ S1, S1 = zup S 416 0 0 →
  ((((S1 416 3) + 20) ≤ 400 →
    vp_in (0 : Int32) 5 ∧
    ∀ S2, S2 = zup S1 1109 (0 : Int32).toNatClampNeg x1 →
    vp_in (1 : Int32) 5 ∧
    ∀ S3, S3 = zup S2 1109 (1 : Int32).toNatClampNeg x2 →
    vp_in (2 : Int32) 5 ∧
    ∀ S4, S4 = zup S3 1109 (2 : Int32).toNatClampNeg x3 →
    vp_in (3 : Int32) 5 ∧
    ∀ S5, S5 = zup S4 1109 (3 : Int32).toNatClampNeg x4 →
    vp_in (4 : Int32) 5 ∧
    ∀ S6, S6 = zup S5 1109 (4 : Int32).toNatClampNeg x5 →
    zW E l mX12_feed d b A (rQ G Q) k 60 [some (.ref (zp 416 0)), none, none, none, none, none, some (.int 0)] [] (zput G S6)) ∧
  (¬ (((S1 416 3) + 20) ≤ 400) →
    Q (some (.int (-1))) S1))
theorem rwpt_X12_feed_0 {E : ZE} {l : Launch} {d b : Nat} {A G : ZG} {Q : Option Value → ZS9 → Prop} {k : Nat} {x1 : Int32} {x2 : Int32} {x3 : Int32} {x4 : Int32} {x5 : Int32} {S : ZS9} (hK : RK G) (h : rwp_X12_feed_0 E l d b A G Q k x1 x2 x3 x4 x5 S) : zW E l mX12_feed d b A (rQ G Q) k 0 [some (.ref (zp 416 0)), some (.int x1), some (.int x2), some (.int x3), some (.int x4), some (.int x5), none] [] (zput G S) := by
  unfold rwp_X12_feed_0 at h
  refine z_aload_n (pc' := 1) dX12_feed_0 rfl rfl ?_
  refine z_iconst (x := 0) (pc' := 2) dX12_feed_1 (by decide) rfl ?_
  obtain ⟨S1, hG⟩ : ∃ z, z = zup S 416 0 0 := ⟨_, rfl⟩
  have h := h _ hG
  refine r_putI (kf := 0) (pc' := 5) hK dX12_feed_2 kX12_178 rfl (by decide) (by decide) rfl rfl (zok_int _) ?_
  refine r_st hG ?_
  refine z_aload_n (pc' := 6) dX12_feed_5 rfl rfl ?_
  refine r_getI (kf := 3) (pc' := 9) hK dX12_feed_6 kX12_181 rfl (by decide) (by decide) rfl ?_
  refine z_bipush (x := 20) (pc' := 11) dX12_feed_9 (by decide) rfl ?_
  refine z_iadd (pc' := 12) dX12_feed_11 rfl rfl ?_
  refine z_sipush (x := 400) (pc' := 15) dX12_feed_12 (by decide) rfl ?_
  refine z_icmp_le (pt := 20) (pc' := 18) dX12_feed_15 (by decide) rfl (fun hc => ?_) (fun hc => ?_)
  · have h := h.1 hc
    refine z_aload_n (pc' := 21) dX12_feed_20 rfl rfl ?_
    refine r_getA (kf := 9) (pc' := 24) hK rt_9 dX12_feed_21 kX12_17 rfl (by decide) (by decide) rfl ?_
    refine z_iconst (x := 0) (pc' := 25) dX12_feed_24 (by decide) rfl ?_
    refine z_iload_n (pc' := 26) dX12_feed_25 rfl rfl ?_
    obtain ⟨h1, h⟩ := h
    obtain ⟨S2, hG⟩ : ∃ z, z = zup S1 1109 (0 : Int32).toNatClampNeg x1 := ⟨_, rfl⟩
    have h := h _ hG
    refine r_iast (pc' := 27) hK rt_9 rfl dX12_feed_26 rfl h1  ?_
    refine r_st hG ?_
    refine z_aload_n (pc' := 28) dX12_feed_27 rfl rfl ?_
    refine r_getA (kf := 9) (pc' := 31) hK rt_9 dX12_feed_28 kX12_17 rfl (by decide) (by decide) rfl ?_
    refine z_iconst (x := 1) (pc' := 32) dX12_feed_31 (by decide) rfl ?_
    refine z_iload_n (pc' := 33) dX12_feed_32 rfl rfl ?_
    obtain ⟨h1, h⟩ := h
    obtain ⟨S3, hG⟩ : ∃ z, z = zup S2 1109 (1 : Int32).toNatClampNeg x2 := ⟨_, rfl⟩
    have h := h _ hG
    refine r_iast (pc' := 34) hK rt_9 rfl dX12_feed_33 rfl h1  ?_
    refine r_st hG ?_
    refine z_aload_n (pc' := 35) dX12_feed_34 rfl rfl ?_
    refine r_getA (kf := 9) (pc' := 38) hK rt_9 dX12_feed_35 kX12_17 rfl (by decide) (by decide) rfl ?_
    refine z_iconst (x := 2) (pc' := 39) dX12_feed_38 (by decide) rfl ?_
    refine z_iload_n (pc' := 40) dX12_feed_39 rfl rfl ?_
    obtain ⟨h1, h⟩ := h
    obtain ⟨S4, hG⟩ : ∃ z, z = zup S3 1109 (2 : Int32).toNatClampNeg x3 := ⟨_, rfl⟩
    have h := h _ hG
    refine r_iast (pc' := 41) hK rt_9 rfl dX12_feed_40 rfl h1  ?_
    refine r_st hG ?_
    refine z_aload_n (pc' := 42) dX12_feed_41 rfl rfl ?_
    refine r_getA (kf := 9) (pc' := 45) hK rt_9 dX12_feed_42 kX12_17 rfl (by decide) (by decide) rfl ?_
    refine z_iconst (x := 3) (pc' := 46) dX12_feed_45 (by decide) rfl ?_
    refine z_iload (pc' := 48) dX12_feed_46 rfl rfl ?_
    obtain ⟨h1, h⟩ := h
    obtain ⟨S5, hG⟩ : ∃ z, z = zup S4 1109 (3 : Int32).toNatClampNeg x4 := ⟨_, rfl⟩
    have h := h _ hG
    refine r_iast (pc' := 49) hK rt_9 rfl dX12_feed_48 rfl h1  ?_
    refine r_st hG ?_
    refine z_aload_n (pc' := 50) dX12_feed_49 rfl rfl ?_
    refine r_getA (kf := 9) (pc' := 53) hK rt_9 dX12_feed_50 kX12_17 rfl (by decide) (by decide) rfl ?_
    refine z_iconst (x := 4) (pc' := 54) dX12_feed_53 (by decide) rfl ?_
    refine z_iload (pc' := 56) dX12_feed_54 rfl rfl ?_
    obtain ⟨h1, h⟩ := h
    obtain ⟨S6, hG⟩ : ∃ z, z = zup S5 1109 (4 : Int32).toNatClampNeg x5 := ⟨_, rfl⟩
    have h := h _ hG
    refine r_iast (pc' := 57) hK rt_9 rfl dX12_feed_56 rfl h1  ?_
    refine r_st hG ?_
    refine z_iconst (x := 0) (pc' := 58) dX12_feed_57 (by decide) rfl ?_
    refine z_istore (pc' := 60) dX12_feed_58 (by decide) rfl ?_
    exact z_dr (ls' := [some (.ref (zp 416 0)), none, none, none, none, none, some (.int 0)]) ⟨rfl, rfl, trivial⟩ h
  · have h := h.2 hc
    refine z_iconst (x := (-1)) (pc' := 19) dX12_feed_18 (by decide) rfl ?_
    exact z_iret dX12_feed_19 rfl ⟨_, _, rfl, rfl, h⟩
def rwp_X12_feed_60 (E : ZE) (l : Launch) (d b : Nat) (A G : ZG) (Q : Option Value → ZS9 → Prop) (k : Nat) (x6 : Int32) (S : ZS9) : Prop :=
  ((20 ≤ x6 →
    ∀ S1, S1 = zup S 416 3 ((S 416 3) + 20) →
    Q (some (.int (S1 416 3))) S1) ∧
  (¬ (20 ≤ x6) →
    vp_in (x6 / 4) 5 ∧
    vp_in ((S 416 3) + x6) 400 ∧
    ∀ S2, S2 = zup S 1602 ((S 416 3) + x6).toNatClampNeg ((((S 1109 (x6 / 4).toNatClampNeg) >>> ((24 - (8 * (x6 - x6 / 4 * 4))) &&& 31)).toInt8.toInt32).toInt8.toInt32) →
    zW E l mX12_feed d b A (rQ G Q) k 60 [some (.ref (zp 416 0)), none, none, none, none, none, some (.int (x6 + 1))] [] (zput G S2)))
theorem rwpt_X12_feed_60 {E : ZE} {l : Launch} {d b : Nat} {A G : ZG} {Q : Option Value → ZS9 → Prop} {k : Nat} {x6 : Int32} {S : ZS9} (hK : RK G) (h : rwp_X12_feed_60 E l d b A G Q k x6 S) : zW E l mX12_feed d b A (rQ G Q) k 60 [some (.ref (zp 416 0)), none, none, none, none, none, some (.int x6)] [] (zput G S) := by
  unfold rwp_X12_feed_60 at h
  refine z_iload (pc' := 62) dX12_feed_60 rfl rfl ?_
  refine z_bipush (x := 20) (pc' := 64) dX12_feed_62 (by decide) rfl ?_
  refine z_icmp_ge (pt := 106) (pc' := 67) dX12_feed_64 (by decide) rfl (fun hc => ?_) (fun hc => ?_)
  · have h := h.1 hc
    refine z_aload_n (pc' := 107) dX12_feed_106 rfl rfl ?_
    refine z_dup (pc' := 108) dX12_feed_107 rfl rfl ?_
    refine r_getI (kf := 3) (pc' := 111) hK dX12_feed_108 kX12_181 rfl (by decide) (by decide) rfl ?_
    refine z_bipush (x := 20) (pc' := 113) dX12_feed_111 (by decide) rfl ?_
    refine z_iadd (pc' := 114) dX12_feed_113 rfl rfl ?_
    obtain ⟨S1, hG⟩ : ∃ z, z = zup S 416 3 ((S 416 3) + 20) := ⟨_, rfl⟩
    have h := h _ hG
    refine r_putI (kf := 3) (pc' := 117) hK dX12_feed_114 kX12_181 rfl (by decide) (by decide) rfl rfl (zok_int _) ?_
    refine r_st hG ?_
    refine z_aload_n (pc' := 118) dX12_feed_117 rfl rfl ?_
    refine r_getI (kf := 3) (pc' := 121) hK dX12_feed_118 kX12_181 rfl (by decide) (by decide) rfl ?_
    exact z_iret dX12_feed_121 rfl ⟨_, _, rfl, rfl, h⟩
  · have h := h.2 hc
    refine z_aload_n (pc' := 68) dX12_feed_67 rfl rfl ?_
    refine r_getA (kf := 2) (pc' := 71) hK rt_2 dX12_feed_68 kX12_9 rfl (by decide) (by decide) rfl ?_
    refine z_aload_n (pc' := 72) dX12_feed_71 rfl rfl ?_
    refine r_getI (kf := 3) (pc' := 75) hK dX12_feed_72 kX12_181 rfl (by decide) (by decide) rfl ?_
    refine z_iload (pc' := 77) dX12_feed_75 rfl rfl ?_
    refine z_iadd (pc' := 78) dX12_feed_77 rfl rfl ?_
    refine z_aload_n (pc' := 79) dX12_feed_78 rfl rfl ?_
    refine r_getA (kf := 9) (pc' := 82) hK rt_9 dX12_feed_79 kX12_17 rfl (by decide) (by decide) rfl ?_
    refine z_iload (pc' := 84) dX12_feed_82 rfl rfl ?_
    refine z_iconst (x := 4) (pc' := 85) dX12_feed_84 (by decide) rfl ?_
    refine z_idiv (pc' := 86) dX12_feed_85 (by decide) rfl rfl ?_
    obtain ⟨h1, h⟩ := h
    refine r_iald (pc' := 87) hK rt_9 rfl dX12_feed_86 rfl h1 ?_
    refine z_bipush (x := 24) (pc' := 89) dX12_feed_87 (by decide) rfl ?_
    refine z_bipush (x := 8) (pc' := 91) dX12_feed_89 (by decide) rfl ?_
    refine z_iload (pc' := 93) dX12_feed_91 rfl rfl ?_
    refine z_iconst (x := 4) (pc' := 94) dX12_feed_93 (by decide) rfl ?_
    refine z_irem (pc' := 95) dX12_feed_94 (by decide) rfl rfl ?_
    refine z_imul (pc' := 96) dX12_feed_95 rfl rfl ?_
    refine z_isub (pc' := 97) dX12_feed_96 rfl rfl ?_
    refine z_ishr (pc' := 98) dX12_feed_97 rfl rfl ?_
    refine z_i2b (pc' := 99) dX12_feed_98 rfl rfl ?_
    obtain ⟨h1, h⟩ := h
    obtain ⟨S2, hG⟩ : ∃ z, z = zup S 1602 ((S 416 3) + x6).toNatClampNeg ((((S 1109 (x6 / 4).toNatClampNeg) >>> ((24 - (8 * (x6 - x6 / 4 * 4))) &&& 31)).toInt8.toInt32).toInt8.toInt32) := ⟨_, rfl⟩
    have h := h _ hG
    refine r_bast (pc' := 100) hK rt_2 rfl dX12_feed_99 rfl h1  ?_
    refine r_st hG ?_
    refine z_iinc (y := x6 + 1) (pc' := 103) dX12_feed_100 rfl (zinc_1 _) (by decide) rfl ?_
    refine z_goto (pc' := 60) dX12_feed_103 (by decide) ?_
    exact z_dr (ls' := [some (.ref (zp 416 0)), none, none, none, none, none, some (.int (x6 + 1))]) ⟨rfl, rfl, trivial⟩ h
def rwp_X12_figure_0 (E : ZE) (l : Launch) (d b : Nat) (A G : ZG) (Q : Option Value → ZS9 → Prop) (k : Nat) (x1 : Int32) (S : ZS9) : Prop :=
  ∀ S1, S1 = zup S 416 0 0 →
  rcI E l mX12_nobody d [.int x1] S1 k (fun y4 S2 k3 =>
  rcI E l mX12_throwsIf d [.int y4, .int 1] S2 k3 (fun y7 S5 k6 =>
  ((y7 = 0 →
    vp_in x1 80 ∧
    ((¬ (S5 2133 x1.toNatClampNeg) = 0 →
      zW E l mX12_figure d b A (rQ G Q) k6 35 [some (.ref (zp 416 0)), some (.int x1), some (.int 0), some (.int 0), none] [] (zput G S5)) ∧
    (¬ (¬ (S5 2133 x1.toNatClampNeg) = 0) →
      Q (some (.int (-1))) S5))) ∧
  (¬ (y7 = 0) →
    Q (some (.int 0)) S5))))
theorem rwpt_X12_figure_0 {E : ZE} {l : Launch} {d b : Nat} {A G : ZG} {Q : Option Value → ZS9 → Prop} {k : Nat} {x1 : Int32} {S : ZS9} (hK : RK G) (h : rwp_X12_figure_0 E l d b A G Q k x1 S) : zW E l mX12_figure d b A (rQ G Q) k 0 [some (.ref (zp 416 0)), some (.int x1), none, none, none] [] (zput G S) := by
  unfold rwp_X12_figure_0 at h
  refine z_aload_n (pc' := 1) dX12_figure_0 rfl rfl ?_
  refine z_iconst (x := 0) (pc' := 2) dX12_figure_1 (by decide) rfl ?_
  obtain ⟨S1, hG⟩ : ∃ z, z = zup S 416 0 0 := ⟨_, rfl⟩
  have h := h _ hG
  refine r_putI (kf := 0) (pc' := 5) hK dX12_figure_2 kX12_178 rfl (by decide) (by decide) rfl rfl (zok_int _) ?_
  refine r_st hG ?_
  refine z_aload_n (pc' := 6) dX12_figure_5 rfl rfl ?_
  refine z_aload_n (pc' := 7) dX12_figure_6 rfl rfl ?_
  refine z_iload_n (pc' := 8) dX12_figure_7 rfl rfl ?_
  refine r_callI (Y := mX12_nobody) (n := 1) (as := [.int x1]) (st := [.ref (zp 416 0)]) (pc' := 11) h hK dX12_figure_8 kX12_385 vX12_nobody rfl rfl rfl (Nat.le_of_ble_eq_true rfl) (fun y4 S2 k3 h => ?_)
  refine z_iconst (x := 1) (pc' := 12) dX12_figure_11 (by decide) rfl ?_
  refine r_callI (Y := mX12_throwsIf) (n := 2) (as := [.int y4, .int 1]) (st := []) (pc' := 15) h hK dX12_figure_12 kX12_321 vX12_throwsIf rfl rfl rfl (Nat.le_of_ble_eq_true rfl) (fun y7 S5 k6 h => ?_)
  refine z_if_eq (pt := 20) (pc' := 18) dX12_figure_15 (by decide) rfl (fun hc => ?_) (fun hc => ?_)
  · have h := h.1 hc
    refine z_aload_n (pc' := 21) dX12_figure_20 rfl rfl ?_
    refine r_getA (kf := 33) (pc' := 24) hK rt_33 dX12_figure_21 kX12_67 rfl (by decide) (by decide) rfl ?_
    refine z_iload_n (pc' := 25) dX12_figure_24 rfl rfl ?_
    obtain ⟨h1, h⟩ := h
    refine r_zald (pc' := 26) hK rt_33 rfl dX12_figure_25 rfl h1 ?_
    refine z_if_ne (pt := 31) (pc' := 29) dX12_figure_26 (by decide) rfl (fun hc => ?_) (fun hc => ?_)
    · have h := h.1 hc
      refine z_iconst (x := 0) (pc' := 32) dX12_figure_31 (by decide) rfl ?_
      refine z_istore_n (pc' := 33) dX12_figure_32 (by decide) rfl ?_
      refine z_iconst (x := 0) (pc' := 34) dX12_figure_33 (by decide) rfl ?_
      refine z_istore_n (pc' := 35) dX12_figure_34 (by decide) rfl ?_
      exact z_dr (ls' := [some (.ref (zp 416 0)), some (.int x1), some (.int 0), some (.int 0), none]) ⟨rfl, rfl, rfl, rfl, trivial⟩ h
    · have h := h.2 hc
      refine z_iconst (x := (-1)) (pc' := 30) dX12_figure_29 (by decide) rfl ?_
      exact z_iret dX12_figure_30 rfl ⟨_, _, rfl, rfl, h⟩
  · have h := h.2 hc
    refine z_iconst (x := 0) (pc' := 19) dX12_figure_18 (by decide) rfl ?_
    exact z_iret dX12_figure_19 rfl ⟨_, _, rfl, rfl, h⟩
def rwp_X12_figure_35 (E : ZE) (l : Launch) (d b : Nat) (A G : ZG) (Q : Option Value → ZS9 → Prop) (k : Nat) (x1 : Int32) (x2 : Int32) (x3 : Int32) (S : ZS9) : Prop :=
  ((24 ≤ x3 →
    Q (some (.int (x2 - x2 / 10 * 10))) S) ∧
  (¬ (24 ≤ x3) →
    vp_in ((24 * x1) + x3) 1920 ∧
    ((¬ (S 1132 ((24 * x1) + x3).toNatClampNeg) = 60 →
      zW E l mX12_figure d b A (rQ G Q) k 74 [some (.ref (zp 416 0)), some (.int x1), none, some (.int x3), none] [.int (((S 1132 ((24 * x1) + x3).toNatClampNeg) - 65) + 10), .int x2] (zput G S)) ∧
    (¬ (¬ (S 1132 ((24 * x1) + x3).toNatClampNeg) = 60) →
      zW E l mX12_figure d b A (rQ G Q) k 74 [some (.ref (zp 416 0)), some (.int x1), none, some (.int x3), none] [.int 0, .int x2] (zput G S)))))
theorem rwpt_X12_figure_35 {E : ZE} {l : Launch} {d b : Nat} {A G : ZG} {Q : Option Value → ZS9 → Prop} {k : Nat} {x1 : Int32} {x2 : Int32} {x3 : Int32} {S : ZS9} (hK : RK G) (h : rwp_X12_figure_35 E l d b A G Q k x1 x2 x3 S) : zW E l mX12_figure d b A (rQ G Q) k 35 [some (.ref (zp 416 0)), some (.int x1), some (.int x2), some (.int x3), none] [] (zput G S) := by
  unfold rwp_X12_figure_35 at h
  refine z_iload_n (pc' := 36) dX12_figure_35 rfl rfl ?_
  refine z_bipush (x := 24) (pc' := 38) dX12_figure_36 (by decide) rfl ?_
  refine z_icmp_ge (pt := 106) (pc' := 41) dX12_figure_38 (by decide) rfl (fun hc => ?_) (fun hc => ?_)
  · have h := h.1 hc
    refine z_iload_n (pc' := 107) dX12_figure_106 rfl rfl ?_
    refine z_bipush (x := 10) (pc' := 109) dX12_figure_107 (by decide) rfl ?_
    refine z_irem (pc' := 110) dX12_figure_109 (by decide) rfl rfl ?_
    exact z_iret dX12_figure_110 rfl ⟨_, _, rfl, rfl, h⟩
  · have h := h.2 hc
    refine z_aload_n (pc' := 42) dX12_figure_41 rfl rfl ?_
    refine r_getA (kf := 32) (pc' := 45) hK rt_32 dX12_figure_42 kX12_64 rfl (by decide) (by decide) rfl ?_
    refine z_bipush (x := 24) (pc' := 47) dX12_figure_45 (by decide) rfl ?_
    refine z_iload_n (pc' := 48) dX12_figure_47 rfl rfl ?_
    refine z_imul (pc' := 49) dX12_figure_48 rfl rfl ?_
    refine z_iload_n (pc' := 50) dX12_figure_49 rfl rfl ?_
    refine z_iadd (pc' := 51) dX12_figure_50 rfl rfl ?_
    obtain ⟨h1, h⟩ := h
    refine r_iald (pc' := 52) hK rt_32 rfl dX12_figure_51 rfl h1 ?_
    refine z_istore (pc' := 54) dX12_figure_52 (by decide) rfl ?_
    refine z_iload_n (pc' := 55) dX12_figure_54 rfl rfl ?_
    refine z_iload (pc' := 57) dX12_figure_55 rfl rfl ?_
    refine z_bipush (x := 60) (pc' := 59) dX12_figure_57 (by decide) rfl ?_
    refine z_icmp_ne (pt := 66) (pc' := 62) dX12_figure_59 (by decide) rfl (fun hc => ?_) (fun hc => ?_)
    · have h := h.1 hc
      refine z_iload (pc' := 68) dX12_figure_66 rfl rfl ?_
      refine z_bipush (x := 65) (pc' := 70) dX12_figure_68 (by decide) rfl ?_
      refine z_isub (pc' := 71) dX12_figure_70 rfl rfl ?_
      refine z_bipush (x := 10) (pc' := 73) dX12_figure_71 (by decide) rfl ?_
      refine z_iadd (pc' := 74) dX12_figure_73 rfl rfl ?_
      exact z_dr (ls' := [some (.ref (zp 416 0)), some (.int x1), none, some (.int x3), none]) ⟨rfl, rfl, rfl, trivial⟩ h
    · have h := h.2 hc
      refine z_iconst (x := 0) (pc' := 63) dX12_figure_62 (by decide) rfl ?_
      refine z_goto (pc' := 74) dX12_figure_63 (by decide) ?_
      exact z_dr (ls' := [some (.ref (zp 416 0)), some (.int x1), none, some (.int x3), none]) ⟨rfl, rfl, rfl, trivial⟩ h
def rwp_X12_figure_74 (E : ZE) (l : Launch) (d b : Nat) (A G : ZG) (Q : Option Value → ZS9 → Prop) (k : Nat) (x1 : Int32) (x3 : Int32) (s0 : Int32) (s1 : Int32) (S : ZS9) : Prop :=
  ((¬ (x3 - x3 / 3 * 3) = 0 →
    ((¬ (x3 - x3 / 3 * 3) = 1 →
      zW E l mX12_figure d b A (rQ G Q) k 35 [some (.ref (zp 416 0)), some (.int x1), some (.int (s1 + (s0 * 1))), some (.int (x3 + 1)), none] [] (zput G S)) ∧
    (¬ (¬ (x3 - x3 / 3 * 3) = 1) →
      zW E l mX12_figure d b A (rQ G Q) k 35 [some (.ref (zp 416 0)), some (.int x1), some (.int (s1 + (s0 * 3))), some (.int (x3 + 1)), none] [] (zput G S)))) ∧
  (¬ (¬ (x3 - x3 / 3 * 3) = 0) →
    zW E l mX12_figure d b A (rQ G Q) k 35 [some (.ref (zp 416 0)), some (.int x1), some (.int (s1 + (s0 * 7))), some (.int (x3 + 1)), none] [] (zput G S)))
theorem rwpt_X12_figure_74 {E : ZE} {l : Launch} {d b : Nat} {A G : ZG} {Q : Option Value → ZS9 → Prop} {k : Nat} {x1 : Int32} {x3 : Int32} {s0 : Int32} {s1 : Int32} {S : ZS9} (hK : RK G) (h : rwp_X12_figure_74 E l d b A G Q k x1 x3 s0 s1 S) : zW E l mX12_figure d b A (rQ G Q) k 74 [some (.ref (zp 416 0)), some (.int x1), none, some (.int x3), none] [.int s0, .int s1] (zput G S) := by
  unfold rwp_X12_figure_74 at h
  refine z_iload_n (pc' := 75) dX12_figure_74 rfl rfl ?_
  refine z_iconst (x := 3) (pc' := 76) dX12_figure_75 (by decide) rfl ?_
  refine z_irem (pc' := 77) dX12_figure_76 (by decide) rfl rfl ?_
  refine z_if_ne (pt := 85) (pc' := 80) dX12_figure_77 (by decide) rfl (fun hc => ?_) (fun hc => ?_)
  · have h := h.1 hc
    refine z_iload_n (pc' := 86) dX12_figure_85 rfl rfl ?_
    refine z_iconst (x := 3) (pc' := 87) dX12_figure_86 (by decide) rfl ?_
    refine z_irem (pc' := 88) dX12_figure_87 (by decide) rfl rfl ?_
    refine z_iconst (x := 1) (pc' := 89) dX12_figure_88 (by decide) rfl ?_
    refine z_icmp_ne (pt := 96) (pc' := 92) dX12_figure_89 (by decide) rfl (fun hc => ?_) (fun hc => ?_)
    · have h := h.1 hc
      refine z_iconst (x := 1) (pc' := 97) dX12_figure_96 (by decide) rfl ?_
      refine z_imul (pc' := 98) dX12_figure_97 rfl rfl ?_
      refine z_iadd (pc' := 99) dX12_figure_98 rfl rfl ?_
      refine z_istore_n (pc' := 100) dX12_figure_99 (by decide) rfl ?_
      refine z_iinc (y := x3 + 1) (pc' := 103) dX12_figure_100 rfl (zinc_1 _) (by decide) rfl ?_
      refine z_goto (pc' := 35) dX12_figure_103 (by decide) ?_
      exact z_dr (ls' := [some (.ref (zp 416 0)), some (.int x1), some (.int (s1 + (s0 * 1))), some (.int (x3 + 1)), none]) ⟨rfl, rfl, rfl, rfl, trivial⟩ h
    · have h := h.2 hc
      refine z_iconst (x := 3) (pc' := 93) dX12_figure_92 (by decide) rfl ?_
      refine z_goto (pc' := 97) dX12_figure_93 (by decide) ?_
      refine z_imul (pc' := 98) dX12_figure_97 rfl rfl ?_
      refine z_iadd (pc' := 99) dX12_figure_98 rfl rfl ?_
      refine z_istore_n (pc' := 100) dX12_figure_99 (by decide) rfl ?_
      refine z_iinc (y := x3 + 1) (pc' := 103) dX12_figure_100 rfl (zinc_1 _) (by decide) rfl ?_
      refine z_goto (pc' := 35) dX12_figure_103 (by decide) ?_
      exact z_dr (ls' := [some (.ref (zp 416 0)), some (.int x1), some (.int (s1 + (s0 * 3))), some (.int (x3 + 1)), none]) ⟨rfl, rfl, rfl, rfl, trivial⟩ h
  · have h := h.2 hc
    refine z_bipush (x := 7) (pc' := 82) dX12_figure_80 (by decide) rfl ?_
    refine z_goto (pc' := 97) dX12_figure_82 (by decide) ?_
    refine z_imul (pc' := 98) dX12_figure_97 rfl rfl ?_
    refine z_iadd (pc' := 99) dX12_figure_98 rfl rfl ?_
    refine z_istore_n (pc' := 100) dX12_figure_99 (by decide) rfl ?_
    refine z_iinc (y := x3 + 1) (pc' := 103) dX12_figure_100 rfl (zinc_1 _) (by decide) rfl ?_
    refine z_goto (pc' := 35) dX12_figure_103 (by decide) ?_
    exact z_dr (ls' := [some (.ref (zp 416 0)), some (.int x1), some (.int (s1 + (s0 * 7))), some (.int (x3 + 1)), none]) ⟨rfl, rfl, rfl, rfl, trivial⟩ h
def rwp_X12_gets_0 (E : ZE) (l : Launch) (d b : Nat) (A G : ZG) (Q : Option Value → ZS9 → Prop) (k : Nat) (x1 : Int32) (S : ZS9) : Prop :=
  rcV E l mX12_sets d [.int x1, .int 0, .int 7] S k (fun S1 k2 =>
  rcV E l mX12_sets d [.int x1, .int 3, .int (S1 416 1)] S1 k2 (fun S3 k4 =>
  vp_in x1 120 ∧
  (((S3 1164 x1.toNatClampNeg) < 0 →
    Q none S3) ∧
  (¬ ((S3 1164 x1.toNatClampNeg) < 0) →
    vp_in x1 120 ∧
    vp_in x1 120 ∧
    (((S3 1164 x1.toNatClampNeg) < ((S3 416 1) - (S3 1156 x1.toNatClampNeg)) →
      rcV E l mX12_sets d [.int x1, .int 6, .int 1] S3 k4 (fun S5 k6 =>
      vp_in x1 120 ∧
      ∀ S7, S7 = zup S5 416 73 ((S5 416 73) + (S5 1160 x1.toNatClampNeg)) →
      Q none S7)) ∧
    (¬ ((S3 1164 x1.toNatClampNeg) < ((S3 416 1) - (S3 1156 x1.toNatClampNeg))) →
      Q none S3))))))
theorem rwpt_X12_gets_0 {E : ZE} {l : Launch} {d b : Nat} {A G : ZG} {Q : Option Value → ZS9 → Prop} {k : Nat} {x1 : Int32} {S : ZS9} (hK : RK G) (h : rwp_X12_gets_0 E l d b A G Q k x1 S) : zW E l mX12_gets d b A (rQ G Q) k 0 [some (.ref (zp 416 0)), some (.int x1)] [] (zput G S) := by
  unfold rwp_X12_gets_0 at h
  refine z_aload_n (pc' := 1) dX12_gets_0 rfl rfl ?_
  refine z_iload_n (pc' := 2) dX12_gets_1 rfl rfl ?_
  refine z_iconst (x := 0) (pc' := 3) dX12_gets_2 (by decide) rfl ?_
  refine z_bipush (x := 7) (pc' := 5) dX12_gets_3 (by decide) rfl ?_
  refine r_callV (Y := mX12_sets) (n := 3) (as := [.int x1, .int 0, .int 7]) (st := []) (pc' := 8) h hK dX12_gets_5 kX12_425 vX12_sets rfl rfl rfl (Nat.le_of_ble_eq_true rfl) (fun S1 k2 h => ?_)
  refine z_aload_n (pc' := 9) dX12_gets_8 rfl rfl ?_
  refine z_iload_n (pc' := 10) dX12_gets_9 rfl rfl ?_
  refine z_iconst (x := 3) (pc' := 11) dX12_gets_10 (by decide) rfl ?_
  refine z_aload_n (pc' := 12) dX12_gets_11 rfl rfl ?_
  refine r_getI (kf := 1) (pc' := 15) hK dX12_gets_12 kX12_314 rfl (by decide) (by decide) rfl ?_
  refine r_callV (Y := mX12_sets) (n := 3) (as := [.int x1, .int 3, .int (S1 416 1)]) (st := []) (pc' := 18) h hK dX12_gets_15 kX12_425 vX12_sets rfl rfl rfl (Nat.le_of_ble_eq_true rfl) (fun S3 k4 h => ?_)
  refine z_aload_n (pc' := 19) dX12_gets_18 rfl rfl ?_
  refine r_getA (kf := 64) (pc' := 22) hK rt_64 dX12_gets_19 kX12_145 rfl (by decide) (by decide) rfl ?_
  refine z_iload_n (pc' := 23) dX12_gets_22 rfl rfl ?_
  obtain ⟨h1, h⟩ := h
  refine r_iald (pc' := 24) hK rt_64 rfl dX12_gets_23 rfl h1 ?_
  refine z_if_lt (pt := 47) (pc' := 27) dX12_gets_24 (by decide) rfl (fun hc => ?_) (fun hc => ?_)
  · have h := h.1 hc
    exact z_vret dX12_gets_47 rfl ⟨_, _, rfl, rfl, h⟩
  · have h := h.2 hc
    refine z_aload_n (pc' := 28) dX12_gets_27 rfl rfl ?_
    refine r_getI (kf := 1) (pc' := 31) hK dX12_gets_28 kX12_314 rfl (by decide) (by decide) rfl ?_
    refine z_aload_n (pc' := 32) dX12_gets_31 rfl rfl ?_
    refine r_getA (kf := 56) (pc' := 35) hK rt_56 dX12_gets_32 kX12_121 rfl (by decide) (by decide) rfl ?_
    refine z_iload_n (pc' := 36) dX12_gets_35 rfl rfl ?_
    obtain ⟨h1, h⟩ := h
    refine r_iald (pc' := 37) hK rt_56 rfl dX12_gets_36 rfl h1 ?_
    refine z_isub (pc' := 38) dX12_gets_37 rfl rfl ?_
    refine z_aload_n (pc' := 39) dX12_gets_38 rfl rfl ?_
    refine r_getA (kf := 64) (pc' := 42) hK rt_64 dX12_gets_39 kX12_145 rfl (by decide) (by decide) rfl ?_
    refine z_iload_n (pc' := 43) dX12_gets_42 rfl rfl ?_
    obtain ⟨h1, h⟩ := h
    refine r_iald (pc' := 44) hK rt_64 rfl dX12_gets_43 rfl h1 ?_
    refine z_icmp_gt (pt := 48) (pc' := 47) dX12_gets_44 (by decide) rfl (fun hc => ?_) (fun hc => ?_)
    · have h := h.1 hc
      refine z_aload_n (pc' := 49) dX12_gets_48 rfl rfl ?_
      refine z_iload_n (pc' := 50) dX12_gets_49 rfl rfl ?_
      refine z_bipush (x := 6) (pc' := 52) dX12_gets_50 (by decide) rfl ?_
      refine z_iconst (x := 1) (pc' := 53) dX12_gets_52 (by decide) rfl ?_
      refine r_callV (Y := mX12_sets) (n := 3) (as := [.int x1, .int 6, .int 1]) (st := []) (pc' := 56) h hK dX12_gets_53 kX12_425 vX12_sets rfl rfl rfl (Nat.le_of_ble_eq_true rfl) (fun S5 k6 h => ?_)
      refine z_aload_n (pc' := 57) dX12_gets_56 rfl rfl ?_
      refine z_dup (pc' := 58) dX12_gets_57 rfl rfl ?_
      refine r_getI (kf := 73) (pc' := 61) hK dX12_gets_58 kX12_456 rfl (by decide) (by decide) rfl ?_
      refine z_aload_n (pc' := 62) dX12_gets_61 rfl rfl ?_
      refine r_getA (kf := 60) (pc' := 65) hK rt_60 dX12_gets_62 kX12_133 rfl (by decide) (by decide) rfl ?_
      refine z_iload_n (pc' := 66) dX12_gets_65 rfl rfl ?_
      obtain ⟨h1, h⟩ := h
      refine r_iald (pc' := 67) hK rt_60 rfl dX12_gets_66 rfl h1 ?_
      refine z_iadd (pc' := 68) dX12_gets_67 rfl rfl ?_
      obtain ⟨S7, hG⟩ : ∃ z, z = zup S5 416 73 ((S5 416 73) + (S5 1160 x1.toNatClampNeg)) := ⟨_, rfl⟩
      have h := h _ hG
      refine r_putI (kf := 73) (pc' := 71) hK dX12_gets_68 kX12_456 rfl (by decide) (by decide) rfl rfl (zok_int _) ?_
      refine r_st hG ?_
      exact z_vret dX12_gets_71 rfl ⟨_, _, rfl, rfl, h⟩
    · have h := h.2 hc
      exact z_vret dX12_gets_47 rfl ⟨_, _, rfl, rfl, h⟩
def rwp_X12_give_0 (E : ZE) (l : Launch) (d b : Nat) (A G : ZG) (Q : Option Value → ZS9 → Prop) (k : Nat) (x1 : Int32) (x2 : Int32) (S : ZS9) : Prop :=
  ∀ S1, S1 = zup S 416 0 0 →
  rcI E l mX12_noAsking d [.int x1] S1 k (fun y4 S2 k3 =>
  rcI E l mX12_throwsIf d [.int y4, .int 1] S2 k3 (fun y7 S5 k6 =>
  ((¬ y7 = 0 →
    Q (some (.int 0)) S5) ∧
  (¬ (¬ y7 = 0) →
    scI E l mX12_in d [.int x2, .int 0, .int 255] (fun y8 =>
    ((¬ y8 = 0 →
      zW E l mX12_give d b A (rQ G Q) k6 35 [some (.ref (zp 416 0)), some (.int x1), some (.int x2)] [.int 0, .ref (zp 416 0)] (zput G S5)) ∧
    (¬ (¬ y8 = 0) →
      zW E l mX12_give d b A (rQ G Q) k6 35 [some (.ref (zp 416 0)), some (.int x1), some (.int x2)] [.int 1, .ref (zp 416 0)] (zput G S5))))))))
theorem rwpt_X12_give_0 {E : ZE} {l : Launch} {d b : Nat} {A G : ZG} {Q : Option Value → ZS9 → Prop} {k : Nat} {x1 : Int32} {x2 : Int32} {S : ZS9} (hK : RK G) (h : rwp_X12_give_0 E l d b A G Q k x1 x2 S) : zW E l mX12_give d b A (rQ G Q) k 0 [some (.ref (zp 416 0)), some (.int x1), some (.int x2)] [] (zput G S) := by
  unfold rwp_X12_give_0 at h
  refine z_aload_n (pc' := 1) dX12_give_0 rfl rfl ?_
  refine z_iconst (x := 0) (pc' := 2) dX12_give_1 (by decide) rfl ?_
  obtain ⟨S1, hG⟩ : ∃ z, z = zup S 416 0 0 := ⟨_, rfl⟩
  have h := h _ hG
  refine r_putI (kf := 0) (pc' := 5) hK dX12_give_2 kX12_178 rfl (by decide) (by decide) rfl rfl (zok_int _) ?_
  refine r_st hG ?_
  refine z_aload_n (pc' := 6) dX12_give_5 rfl rfl ?_
  refine z_aload_n (pc' := 7) dX12_give_6 rfl rfl ?_
  refine z_iload_n (pc' := 8) dX12_give_7 rfl rfl ?_
  refine r_callI (Y := mX12_noAsking) (n := 1) (as := [.int x1]) (st := [.ref (zp 416 0)]) (pc' := 11) h hK dX12_give_8 kX12_431 vX12_noAsking rfl rfl rfl (Nat.le_of_ble_eq_true rfl) (fun y4 S2 k3 h => ?_)
  refine z_iconst (x := 1) (pc' := 12) dX12_give_11 (by decide) rfl ?_
  refine r_callI (Y := mX12_throwsIf) (n := 2) (as := [.int y4, .int 1]) (st := []) (pc' := 15) h hK dX12_give_12 kX12_321 vX12_throwsIf rfl rfl rfl (Nat.le_of_ble_eq_true rfl) (fun y7 S5 k6 h => ?_)
  refine z_if_ne (pt := 65) (pc' := 18) dX12_give_15 (by decide) rfl (fun hc => ?_) (fun hc => ?_)
  · have h := h.1 hc
    refine z_iconst (x := 0) (pc' := 66) dX12_give_65 (by decide) rfl ?_
    exact z_iret dX12_give_66 rfl ⟨_, _, rfl, rfl, h⟩
  · have h := h.2 hc
    refine z_aload_n (pc' := 19) dX12_give_18 rfl rfl ?_
    refine z_iload_n (pc' := 20) dX12_give_19 rfl rfl ?_
    refine z_iconst (x := 0) (pc' := 21) dX12_give_20 (by decide) rfl ?_
    refine z_sipush (x := 255) (pc' := 24) dX12_give_21 (by decide) rfl ?_
    refine r_callSI (Y := mX12_in) (n := 3) (as := [.int x2, .int 0, .int 255]) (st := [.ref (zp 416 0)]) (pc' := 27) h dX12_give_24 kX12_317 sX12_in rfl rfl (Nat.le_of_ble_eq_true rfl) (fun y8 h => ?_)
    refine z_if_ne (pt := 34) (pc' := 30) dX12_give_27 (by decide) rfl (fun hc => ?_) (fun hc => ?_)
    · have h := h.1 hc
      refine z_iconst (x := 0) (pc' := 35) dX12_give_34 (by decide) rfl ?_
      exact z_dr (ls' := [some (.ref (zp 416 0)), some (.int x1), some (.int x2)]) ⟨rfl, rfl, rfl, trivial⟩ h
    · have h := h.2 hc
      refine z_iconst (x := 1) (pc' := 31) dX12_give_30 (by decide) rfl ?_
      refine z_goto (pc' := 35) dX12_give_31 (by decide) ?_
      exact z_dr (ls' := [some (.ref (zp 416 0)), some (.int x1), some (.int x2)]) ⟨rfl, rfl, rfl, trivial⟩ h
def rwp_X12_give_35 (E : ZE) (l : Launch) (d b : Nat) (A G : ZG) (Q : Option Value → ZS9 → Prop) (k : Nat) (x1 : Int32) (x2 : Int32) (s0 : Int32) (S : ZS9) : Prop :=
  rcI E l mX12_throwsIf d [.int s0, .int 2] S k (fun y3 S1 k2 =>
  ((¬ y3 = 0 →
    Q (some (.int 0)) S1) ∧
  (¬ (¬ y3 = 0) →
    rcI E l mX12_now d [.int x1, .int 0] S1 k2 (fun y6 S4 k5 =>
    ((y6 = 1 →
      zW E l mX12_give d b A (rQ G Q) k5 58 [some (.ref (zp 416 0)), some (.int x1), some (.int x2)] [.int 0, .ref (zp 416 0)] (zput G S4)) ∧
    (¬ (y6 = 1) →
      zW E l mX12_give d b A (rQ G Q) k5 58 [some (.ref (zp 416 0)), some (.int x1), some (.int x2)] [.int 1, .ref (zp 416 0)] (zput G S4)))))))
theorem rwpt_X12_give_35 {E : ZE} {l : Launch} {d b : Nat} {A G : ZG} {Q : Option Value → ZS9 → Prop} {k : Nat} {x1 : Int32} {x2 : Int32} {s0 : Int32} {S : ZS9} (hK : RK G) (h : rwp_X12_give_35 E l d b A G Q k x1 x2 s0 S) : zW E l mX12_give d b A (rQ G Q) k 35 [some (.ref (zp 416 0)), some (.int x1), some (.int x2)] [.int s0, .ref (zp 416 0)] (zput G S) := by
  unfold rwp_X12_give_35 at h
  refine z_iconst (x := 2) (pc' := 36) dX12_give_35 (by decide) rfl ?_
  refine r_callI (Y := mX12_throwsIf) (n := 2) (as := [.int s0, .int 2]) (st := []) (pc' := 39) h hK dX12_give_36 kX12_321 vX12_throwsIf rfl rfl rfl (Nat.le_of_ble_eq_true rfl) (fun y3 S1 k2 h => ?_)
  refine z_if_ne (pt := 65) (pc' := 42) dX12_give_39 (by decide) rfl (fun hc => ?_) (fun hc => ?_)
  · have h := h.1 hc
    refine z_iconst (x := 0) (pc' := 66) dX12_give_65 (by decide) rfl ?_
    exact z_iret dX12_give_66 rfl ⟨_, _, rfl, rfl, h⟩
  · have h := h.2 hc
    refine z_aload_n (pc' := 43) dX12_give_42 rfl rfl ?_
    refine z_aload_n (pc' := 44) dX12_give_43 rfl rfl ?_
    refine z_iload_n (pc' := 45) dX12_give_44 rfl rfl ?_
    refine z_iconst (x := 0) (pc' := 46) dX12_give_45 (by decide) rfl ?_
    refine r_callI (Y := mX12_now) (n := 2) (as := [.int x1, .int 0]) (st := [.ref (zp 416 0)]) (pc' := 49) h hK dX12_give_46 kX12_434 vX12_now rfl rfl rfl (Nat.le_of_ble_eq_true rfl) (fun y6 S4 k5 h => ?_)
    refine z_iconst (x := 1) (pc' := 50) dX12_give_49 (by decide) rfl ?_
    refine z_icmp_eq (pt := 57) (pc' := 53) dX12_give_50 (by decide) rfl (fun hc => ?_) (fun hc => ?_)
    · have h := h.1 hc
      refine z_iconst (x := 0) (pc' := 58) dX12_give_57 (by decide) rfl ?_
      exact z_dr (ls' := [some (.ref (zp 416 0)), some (.int x1), some (.int x2)]) ⟨rfl, rfl, rfl, trivial⟩ h
    · have h := h.2 hc
      refine z_iconst (x := 1) (pc' := 54) dX12_give_53 (by decide) rfl ?_
      refine z_goto (pc' := 58) dX12_give_54 (by decide) ?_
      exact z_dr (ls' := [some (.ref (zp 416 0)), some (.int x1), some (.int x2)]) ⟨rfl, rfl, rfl, trivial⟩ h
def rwp_X12_give_58 (E : ZE) (l : Launch) (d b : Nat) (A G : ZG) (Q : Option Value → ZS9 → Prop) (k : Nat) (x1 : Int32) (x2 : Int32) (s0 : Int32) (S : ZS9) : Prop :=
  rcI E l mX12_throwsIf d [.int s0, .int 3] S k (fun y3 S1 k2 =>
  ((y3 = 0 →
    vp_in x1 120 ∧
    vp_in x1 120 ∧
    ∀ S4, S4 = zup S1 1157 x1.toNatClampNeg ((S1 1157 x1.toNatClampNeg) ||| x2) →
    rcI E l mX12_lacksOf d [.int x1] S4 k2 (fun y7 S5 k6 =>
    ((¬ y7 = 0 →
      rcI E l mX12_lacksOf d [.int x1] S5 k6 (fun y10 S8 k9 =>
      Q (some (.int y10)) S8)) ∧
    (¬ (¬ y7 = 0) →
      rcV E l mX12_sets d [.int x1, .int 0, .int 0] S5 k6 (fun S11 k12 =>
      rcI E l mX12_lacksOf d [.int x1] S11 k12 (fun y15 S13 k14 =>
      Q (some (.int y15)) S13)))))) ∧
  (¬ (y3 = 0) →
    Q (some (.int 0)) S1)))
theorem rwpt_X12_give_58 {E : ZE} {l : Launch} {d b : Nat} {A G : ZG} {Q : Option Value → ZS9 → Prop} {k : Nat} {x1 : Int32} {x2 : Int32} {s0 : Int32} {S : ZS9} (hK : RK G) (h : rwp_X12_give_58 E l d b A G Q k x1 x2 s0 S) : zW E l mX12_give d b A (rQ G Q) k 58 [some (.ref (zp 416 0)), some (.int x1), some (.int x2)] [.int s0, .ref (zp 416 0)] (zput G S) := by
  unfold rwp_X12_give_58 at h
  refine z_iconst (x := 3) (pc' := 59) dX12_give_58 (by decide) rfl ?_
  refine r_callI (Y := mX12_throwsIf) (n := 2) (as := [.int s0, .int 3]) (st := []) (pc' := 62) h hK dX12_give_59 kX12_321 vX12_throwsIf rfl rfl rfl (Nat.le_of_ble_eq_true rfl) (fun y3 S1 k2 h => ?_)
  refine z_if_eq (pt := 67) (pc' := 65) dX12_give_62 (by decide) rfl (fun hc => ?_) (fun hc => ?_)
  · have h := h.1 hc
    refine z_aload_n (pc' := 68) dX12_give_67 rfl rfl ?_
    refine r_getA (kf := 57) (pc' := 71) hK rt_57 dX12_give_68 kX12_124 rfl (by decide) (by decide) rfl ?_
    refine z_iload_n (pc' := 72) dX12_give_71 rfl rfl ?_
    refine z_dup2 (pc' := 73) dX12_give_72 rfl rfl rfl ?_
    obtain ⟨h1, h⟩ := h
    refine r_iald (pc' := 74) hK rt_57 rfl dX12_give_73 rfl h1 ?_
    refine z_iload_n (pc' := 75) dX12_give_74 rfl rfl ?_
    refine z_ior (pc' := 76) dX12_give_75 rfl rfl ?_
    obtain ⟨h1, h⟩ := h
    obtain ⟨S4, hG⟩ : ∃ z, z = zup S1 1157 x1.toNatClampNeg ((S1 1157 x1.toNatClampNeg) ||| x2) := ⟨_, rfl⟩
    have h := h _ hG
    refine r_iast (pc' := 77) hK rt_57 rfl dX12_give_76 rfl h1  ?_
    refine r_st hG ?_
    refine z_aload_n (pc' := 78) dX12_give_77 rfl rfl ?_
    refine z_iload_n (pc' := 79) dX12_give_78 rfl rfl ?_
    refine r_callI (Y := mX12_lacksOf) (n := 1) (as := [.int x1]) (st := []) (pc' := 82) h hK dX12_give_79 kX12_437 vX12_lacksOf rfl rfl rfl (Nat.le_of_ble_eq_true rfl) (fun y7 S5 k6 h => ?_)
    refine z_if_ne (pt := 92) (pc' := 85) dX12_give_82 (by decide) rfl (fun hc => ?_) (fun hc => ?_)
    · have h := h.1 hc
      refine z_aload_n (pc' := 93) dX12_give_92 rfl rfl ?_
      refine z_iload_n (pc' := 94) dX12_give_93 rfl rfl ?_
      refine r_callI (Y := mX12_lacksOf) (n := 1) (as := [.int x1]) (st := []) (pc' := 97) h hK dX12_give_94 kX12_437 vX12_lacksOf rfl rfl rfl (Nat.le_of_ble_eq_true rfl) (fun y10 S8 k9 h => ?_)
      exact z_iret dX12_give_97 rfl ⟨_, _, rfl, rfl, h⟩
    · have h := h.2 hc
      refine z_aload_n (pc' := 86) dX12_give_85 rfl rfl ?_
      refine z_iload_n (pc' := 87) dX12_give_86 rfl rfl ?_
      refine z_iconst (x := 0) (pc' := 88) dX12_give_87 (by decide) rfl ?_
      refine z_iconst (x := 0) (pc' := 89) dX12_give_88 (by decide) rfl ?_
      refine r_callV (Y := mX12_sets) (n := 3) (as := [.int x1, .int 0, .int 0]) (st := []) (pc' := 92) h hK dX12_give_89 kX12_425 vX12_sets rfl rfl rfl (Nat.le_of_ble_eq_true rfl) (fun S11 k12 h => ?_)
      refine z_aload_n (pc' := 93) dX12_give_92 rfl rfl ?_
      refine z_iload_n (pc' := 94) dX12_give_93 rfl rfl ?_
      refine r_callI (Y := mX12_lacksOf) (n := 1) (as := [.int x1]) (st := []) (pc' := 97) h hK dX12_give_94 kX12_437 vX12_lacksOf rfl rfl rfl (Nat.le_of_ble_eq_true rfl) (fun y15 S13 k14 h => ?_)
      exact z_iret dX12_give_97 rfl ⟨_, _, rfl, rfl, h⟩
  · have h := h.2 hc
    refine z_iconst (x := 0) (pc' := 66) dX12_give_65 (by decide) rfl ?_
    exact z_iret dX12_give_66 rfl ⟨_, _, rfl, rfl, h⟩
def rwp_X12_hands_0 (E : ZE) (l : Launch) (d b : Nat) (A G : ZG) (Q : Option Value → ZS9 → Prop) (k : Nat) (x1 : Int32) (x2 : Int32) (S : ZS9) : Prop :=
  ∀ S1, S1 = zup S 416 0 0 →
  scI E l mX12_noDesk d [.int x1] (fun y2 =>
  rcI E l mX12_throwsIf d [.int y2, .int 1] S1 k (fun y5 S3 k4 =>
  ((¬ y5 = 0 →
    Q none S3) ∧
  (¬ (¬ y5 = 0) →
    scI E l mX12_in d [.int x2, .int 0, .int 30] (fun y6 =>
    ((¬ y6 = 0 →
      rcI E l mX12_throwsIf d [.int 0, .int 2] S3 k4 (fun y9 S7 k8 =>
      ((y9 = 0 →
        vp_in x1 4 ∧
        ∀ S10, S10 = zup S7 1146 x1.toNatClampNeg x2 →
        Q none S10) ∧
      (¬ (y9 = 0) →
        Q none S7)))) ∧
    (¬ (¬ y6 = 0) →
      rcI E l mX12_throwsIf d [.int 1, .int 2] S3 k4 (fun y13 S11 k12 =>
      ((y13 = 0 →
        vp_in x1 4 ∧
        ∀ S14, S14 = zup S11 1146 x1.toNatClampNeg x2 →
        Q none S14) ∧
      (¬ (y13 = 0) →
        Q none S11))))))))))
theorem rwpt_X12_hands_0 {E : ZE} {l : Launch} {d b : Nat} {A G : ZG} {Q : Option Value → ZS9 → Prop} {k : Nat} {x1 : Int32} {x2 : Int32} {S : ZS9} (hK : RK G) (h : rwp_X12_hands_0 E l d b A G Q k x1 x2 S) : zW E l mX12_hands d b A (rQ G Q) k 0 [some (.ref (zp 416 0)), some (.int x1), some (.int x2)] [] (zput G S) := by
  unfold rwp_X12_hands_0 at h
  refine z_aload_n (pc' := 1) dX12_hands_0 rfl rfl ?_
  refine z_iconst (x := 0) (pc' := 2) dX12_hands_1 (by decide) rfl ?_
  obtain ⟨S1, hG⟩ : ∃ z, z = zup S 416 0 0 := ⟨_, rfl⟩
  have h := h _ hG
  refine r_putI (kf := 0) (pc' := 5) hK dX12_hands_2 kX12_178 rfl (by decide) (by decide) rfl rfl (zok_int _) ?_
  refine r_st hG ?_
  refine z_aload_n (pc' := 6) dX12_hands_5 rfl rfl ?_
  refine z_iload_n (pc' := 7) dX12_hands_6 rfl rfl ?_
  refine r_callSI (Y := mX12_noDesk) (n := 1) (as := [.int x1]) (st := [.ref (zp 416 0)]) (pc' := 10) h dX12_hands_7 kX12_394 sX12_noDesk rfl rfl (Nat.le_of_ble_eq_true rfl) (fun y2 h => ?_)
  refine z_iconst (x := 1) (pc' := 11) dX12_hands_10 (by decide) rfl ?_
  refine r_callI (Y := mX12_throwsIf) (n := 2) (as := [.int y2, .int 1]) (st := []) (pc' := 14) h hK dX12_hands_11 kX12_321 vX12_throwsIf rfl rfl rfl (Nat.le_of_ble_eq_true rfl) (fun y5 S3 k4 h => ?_)
  refine z_if_ne (pt := 40) (pc' := 17) dX12_hands_14 (by decide) rfl (fun hc => ?_) (fun hc => ?_)
  · have h := h.1 hc
    exact z_vret dX12_hands_40 rfl ⟨_, _, rfl, rfl, h⟩
  · have h := h.2 hc
    refine z_aload_n (pc' := 18) dX12_hands_17 rfl rfl ?_
    refine z_iload_n (pc' := 19) dX12_hands_18 rfl rfl ?_
    refine z_iconst (x := 0) (pc' := 20) dX12_hands_19 (by decide) rfl ?_
    refine z_bipush (x := 30) (pc' := 22) dX12_hands_20 (by decide) rfl ?_
    refine r_callSI (Y := mX12_in) (n := 3) (as := [.int x2, .int 0, .int 30]) (st := [.ref (zp 416 0)]) (pc' := 25) h dX12_hands_22 kX12_317 sX12_in rfl rfl (Nat.le_of_ble_eq_true rfl) (fun y6 h => ?_)
    refine z_if_ne (pt := 32) (pc' := 28) dX12_hands_25 (by decide) rfl (fun hc => ?_) (fun hc => ?_)
    · have h := h.1 hc
      refine z_iconst (x := 0) (pc' := 33) dX12_hands_32 (by decide) rfl ?_
      refine z_iconst (x := 2) (pc' := 34) dX12_hands_33 (by decide) rfl ?_
      refine r_callI (Y := mX12_throwsIf) (n := 2) (as := [.int 0, .int 2]) (st := []) (pc' := 37) h hK dX12_hands_34 kX12_321 vX12_throwsIf rfl rfl rfl (Nat.le_of_ble_eq_true rfl) (fun y9 S7 k8 h => ?_)
      refine z_if_eq (pt := 41) (pc' := 40) dX12_hands_37 (by decide) rfl (fun hc => ?_) (fun hc => ?_)
      · have h := h.1 hc
        refine z_aload_n (pc' := 42) dX12_hands_41 rfl rfl ?_
        refine r_getA (kf := 46) (pc' := 45) hK rt_46 dX12_hands_42 kX12_94 rfl (by decide) (by decide) rfl ?_
        refine z_iload_n (pc' := 46) dX12_hands_45 rfl rfl ?_
        refine z_iload_n (pc' := 47) dX12_hands_46 rfl rfl ?_
        obtain ⟨h1, h⟩ := h
        obtain ⟨S10, hG⟩ : ∃ z, z = zup S7 1146 x1.toNatClampNeg x2 := ⟨_, rfl⟩
        have h := h _ hG
        refine r_iast (pc' := 48) hK rt_46 rfl dX12_hands_47 rfl h1  ?_
        refine r_st hG ?_
        exact z_vret dX12_hands_48 rfl ⟨_, _, rfl, rfl, h⟩
      · have h := h.2 hc
        exact z_vret dX12_hands_40 rfl ⟨_, _, rfl, rfl, h⟩
    · have h := h.2 hc
      refine z_iconst (x := 1) (pc' := 29) dX12_hands_28 (by decide) rfl ?_
      refine z_goto (pc' := 33) dX12_hands_29 (by decide) ?_
      refine z_iconst (x := 2) (pc' := 34) dX12_hands_33 (by decide) rfl ?_
      refine r_callI (Y := mX12_throwsIf) (n := 2) (as := [.int 1, .int 2]) (st := []) (pc' := 37) h hK dX12_hands_34 kX12_321 vX12_throwsIf rfl rfl rfl (Nat.le_of_ble_eq_true rfl) (fun y13 S11 k12 h => ?_)
      refine z_if_eq (pt := 41) (pc' := 40) dX12_hands_37 (by decide) rfl (fun hc => ?_) (fun hc => ?_)
      · have h := h.1 hc
        refine z_aload_n (pc' := 42) dX12_hands_41 rfl rfl ?_
        refine r_getA (kf := 46) (pc' := 45) hK rt_46 dX12_hands_42 kX12_94 rfl (by decide) (by decide) rfl ?_
        refine z_iload_n (pc' := 46) dX12_hands_45 rfl rfl ?_
        refine z_iload_n (pc' := 47) dX12_hands_46 rfl rfl ?_
        obtain ⟨h1, h⟩ := h
        obtain ⟨S14, hG⟩ : ∃ z, z = zup S11 1146 x1.toNatClampNeg x2 := ⟨_, rfl⟩
        have h := h _ hG
        refine r_iast (pc' := 48) hK rt_46 rfl dX12_hands_47 rfl h1  ?_
        refine r_st hG ?_
        exact z_vret dX12_hands_48 rfl ⟨_, _, rfl, rfl, h⟩
      · have h := h.2 hc
        exact z_vret dX12_hands_40 rfl ⟨_, _, rfl, rfl, h⟩
def rwp_X12_hasTicket_0 (E : ZE) (l : Launch) (d b : Nat) (A G : ZG) (Q : Option Value → ZS9 → Prop) (k : Nat) (x1 : Int32) (S : ZS9) : Prop :=
  vp_in x1 120 ∧
  ((¬ (((S 1157 x1.toNatClampNeg) >>> (6 &&& 31)) &&& 1) = 1 →
    Q (some (.int 0)) S) ∧
  (¬ (¬ (((S 1157 x1.toNatClampNeg) >>> (6 &&& 31)) &&& 1) = 1) →
    Q (some (.int 1)) S))
theorem rwpt_X12_hasTicket_0 {E : ZE} {l : Launch} {d b : Nat} {A G : ZG} {Q : Option Value → ZS9 → Prop} {k : Nat} {x1 : Int32} {S : ZS9} (hK : RK G) (h : rwp_X12_hasTicket_0 E l d b A G Q k x1 S) : zW E l mX12_hasTicket d b A (rQ G Q) k 0 [some (.ref (zp 416 0)), some (.int x1)] [] (zput G S) := by
  unfold rwp_X12_hasTicket_0 at h
  refine z_aload_n (pc' := 1) dX12_hasTicket_0 rfl rfl ?_
  refine r_getA (kf := 57) (pc' := 4) hK rt_57 dX12_hasTicket_1 kX12_124 rfl (by decide) (by decide) rfl ?_
  refine z_iload_n (pc' := 5) dX12_hasTicket_4 rfl rfl ?_
  obtain ⟨h1, h⟩ := h
  refine r_iald (pc' := 6) hK rt_57 rfl dX12_hasTicket_5 rfl h1 ?_
  refine z_bipush (x := 6) (pc' := 8) dX12_hasTicket_6 (by decide) rfl ?_
  refine z_ishr (pc' := 9) dX12_hasTicket_8 rfl rfl ?_
  refine z_iconst (x := 1) (pc' := 10) dX12_hasTicket_9 (by decide) rfl ?_
  refine z_iand (pc' := 11) dX12_hasTicket_10 rfl rfl ?_
  refine z_iconst (x := 1) (pc' := 12) dX12_hasTicket_11 (by decide) rfl ?_
  refine z_icmp_ne (pt := 19) (pc' := 15) dX12_hasTicket_12 (by decide) rfl (fun hc => ?_) (fun hc => ?_)
  · have h := h.1 hc
    refine z_iconst (x := 0) (pc' := 20) dX12_hasTicket_19 (by decide) rfl ?_
    exact z_zret (ty := .boolean) dX12_hasTicket_20 rfl (by decide) ⟨_, _, rfl, rfl, h⟩
  · have h := h.2 hc
    refine z_iconst (x := 1) (pc' := 16) dX12_hasTicket_15 (by decide) rfl ?_
    refine z_goto (pc' := 20) dX12_hasTicket_16 (by decide) ?_
    exact z_zret (ty := .boolean) dX12_hasTicket_20 rfl (by decide) ⟨_, _, rfl, rfl, h⟩
def rwp_X12_holds_0 (E : ZE) (l : Launch) (d b : Nat) (A G : ZG) (Q : Option Value → ZS9 → Prop) (k : Nat) (x1 : Int32) (x2 : Int32) (x3 : Int32) (S : ZS9) : Prop :=
  zW E l mX12_holds d b A (rQ G Q) k 12 [some (.ref (zp 416 0)), some (.int x1), none, some (.int x3), some (.int 0), some (.int ((400 * x1) + x2)), none] [] (zput G S)
theorem rwpt_X12_holds_0 {E : ZE} {l : Launch} {d b : Nat} {A G : ZG} {Q : Option Value → ZS9 → Prop} {k : Nat} {x1 : Int32} {x2 : Int32} {x3 : Int32} {S : ZS9} (hK : RK G) (h : rwp_X12_holds_0 E l d b A G Q k x1 x2 x3 S) : zW E l mX12_holds d b A (rQ G Q) k 0 [some (.ref (zp 416 0)), some (.int x1), some (.int x2), some (.int x3), none, none, none] [] (zput G S) := by
  unfold rwp_X12_holds_0 at h
  refine z_iconst (x := 0) (pc' := 1) dX12_holds_0 (by decide) rfl ?_
  refine z_istore (pc' := 3) dX12_holds_1 (by decide) rfl ?_
  refine z_sipush (x := 400) (pc' := 6) dX12_holds_3 (by decide) rfl ?_
  refine z_iload_n (pc' := 7) dX12_holds_6 rfl rfl ?_
  refine z_imul (pc' := 8) dX12_holds_7 rfl rfl ?_
  refine z_iload_n (pc' := 9) dX12_holds_8 rfl rfl ?_
  refine z_iadd (pc' := 10) dX12_holds_9 rfl rfl ?_
  refine z_istore (pc' := 12) dX12_holds_10 (by decide) rfl ?_
  exact z_dr (ls' := [some (.ref (zp 416 0)), some (.int x1), none, some (.int x3), some (.int 0), some (.int ((400 * x1) + x2)), none]) ⟨rfl, rfl, rfl, rfl, rfl, trivial⟩ h
def rwp_X12_holds_12 (E : ZE) (l : Launch) (d b : Nat) (A G : ZG) (Q : Option Value → ZS9 → Prop) (k : Nat) (x1 : Int32) (x3 : Int32) (x4 : Int32) (x5 : Int32) (S : ZS9) : Prop :=
  ((((400 * x1) + x3) ≤ x5 →
    ((x4 = 0 →
      Q (some (.int 1)) S) ∧
    (¬ (x4 = 0) →
      vp_in (0 : Int32) 400 ∧
      (((S 2122 (0 : Int32).toNatClampNeg) = 0 →
        Q (some (.int 0)) S) ∧
      (¬ ((S 2122 (0 : Int32).toNatClampNeg) = 0) →
        Q (some (.int 1)) S))))) ∧
  (¬ (((400 * x1) + x3) ≤ x5) →
    vp_in x5 5200 ∧
    ((¬ (S 1116 x5.toNatClampNeg) = 100 →
      vp_in x5 5200 ∧
      (((S 1116 x5.toNatClampNeg) < 101 →
        vp_in x5 5200 ∧
        vp_in (S 1116 x5.toNatClampNeg) 9 ∧
        vp_in x5 5200 ∧
        ((¬ (S 1117 x5.toNatClampNeg) = 0 →
          vp_in x5 5200 ∧
          ((¬ (S 1117 x5.toNatClampNeg) = 1 →
            vp_in x5 5200 ∧
            (((S 1121 (S 1116 x5.toNatClampNeg).toNatClampNeg) ≤ (S 1118 x5.toNatClampNeg) →
              vp_in x4 400 ∧
              ∀ S1, S1 = zup S 2122 x4.toNatClampNeg 0 →
              zW E l mX12_holds d b A (rQ G Q) k 12 [some (.ref (zp 416 0)), some (.int x1), none, some (.int x3), some (.int (x4 + 1)), some (.int (x5 + 1)), none] [] (zput G S1)) ∧
            (¬ ((S 1121 (S 1116 x5.toNatClampNeg).toNatClampNeg) ≤ (S 1118 x5.toNatClampNeg)) →
              vp_in x4 400 ∧
              ∀ S2, S2 = zup S 2122 x4.toNatClampNeg 1 →
              zW E l mX12_holds d b A (rQ G Q) k 12 [some (.ref (zp 416 0)), some (.int x1), none, some (.int x3), some (.int (x4 + 1)), some (.int (x5 + 1)), none] [] (zput G S2)))) ∧
          (¬ (¬ (S 1117 x5.toNatClampNeg) = 1) →
            vp_in x5 5200 ∧
            (((S 1118 x5.toNatClampNeg) ≤ (S 1121 (S 1116 x5.toNatClampNeg).toNatClampNeg) →
              vp_in x4 400 ∧
              ∀ S3, S3 = zup S 2122 x4.toNatClampNeg 0 →
              zW E l mX12_holds d b A (rQ G Q) k 12 [some (.ref (zp 416 0)), some (.int x1), none, some (.int x3), some (.int (x4 + 1)), some (.int (x5 + 1)), none] [] (zput G S3)) ∧
            (¬ ((S 1118 x5.toNatClampNeg) ≤ (S 1121 (S 1116 x5.toNatClampNeg).toNatClampNeg)) →
              vp_in x4 400 ∧
              ∀ S4, S4 = zup S 2122 x4.toNatClampNeg 1 →
              zW E l mX12_holds d b A (rQ G Q) k 12 [some (.ref (zp 416 0)), some (.int x1), none, some (.int x3), some (.int (x4 + 1)), some (.int (x5 + 1)), none] [] (zput G S4)))))) ∧
        (¬ (¬ (S 1117 x5.toNatClampNeg) = 0) →
          (((S 1121 (S 1116 x5.toNatClampNeg).toNatClampNeg) = 0 →
            vp_in x4 400 ∧
            ∀ S5, S5 = zup S 2122 x4.toNatClampNeg 0 →
            zW E l mX12_holds d b A (rQ G Q) k 12 [some (.ref (zp 416 0)), some (.int x1), none, some (.int x3), some (.int (x4 + 1)), some (.int (x5 + 1)), none] [] (zput G S5)) ∧
          (¬ ((S 1121 (S 1116 x5.toNatClampNeg).toNatClampNeg) = 0) →
            vp_in x4 400 ∧
            ∀ S6, S6 = zup S 2122 x4.toNatClampNeg 1 →
            zW E l mX12_holds d b A (rQ G Q) k 12 [some (.ref (zp 416 0)), some (.int x1), none, some (.int x3), some (.int (x4 + 1)), some (.int (x5 + 1)), none] [] (zput G S6)))))) ∧
      (¬ ((S 1116 x5.toNatClampNeg) < 101) →
        vp_in x5 5200 ∧
        ((¬ (S 1116 x5.toNatClampNeg) = 101 →
          vp_in ((x4 + (-1)) - 1) 400 ∧
          ((¬ (S 2122 ((x4 + (-1)) - 1).toNatClampNeg) = 0 →
            vp_in ((x4 + (-1)) - 1) 400 ∧
            ∀ S7, S7 = zup S 2122 ((x4 + (-1)) - 1).toNatClampNeg 1 →
            zW E l mX12_holds d b A (rQ G Q) k 12 [some (.ref (zp 416 0)), some (.int x1), none, some (.int x3), some (.int (x4 + (-1))), some (.int (x5 + 1)), none] [] (zput G S7)) ∧
          (¬ (¬ (S 2122 ((x4 + (-1)) - 1).toNatClampNeg) = 0) →
            vp_in (x4 + (-1)) 400 ∧
            (((S 2122 (x4 + (-1)).toNatClampNeg) = 0 →
              vp_in ((x4 + (-1)) - 1) 400 ∧
              ∀ S8, S8 = zup S 2122 ((x4 + (-1)) - 1).toNatClampNeg 0 →
              zW E l mX12_holds d b A (rQ G Q) k 12 [some (.ref (zp 416 0)), some (.int x1), none, some (.int x3), some (.int (x4 + (-1))), some (.int (x5 + 1)), none] [] (zput G S8)) ∧
            (¬ ((S 2122 (x4 + (-1)).toNatClampNeg) = 0) →
              vp_in ((x4 + (-1)) - 1) 400 ∧
              ∀ S9, S9 = zup S 2122 ((x4 + (-1)) - 1).toNatClampNeg 1 →
              zW E l mX12_holds d b A (rQ G Q) k 12 [some (.ref (zp 416 0)), some (.int x1), none, some (.int x3), some (.int (x4 + (-1))), some (.int (x5 + 1)), none] [] (zput G S9)))))) ∧
        (¬ (¬ (S 1116 x5.toNatClampNeg) = 101) →
          vp_in ((x4 + (-1)) - 1) 400 ∧
          (((S 2122 ((x4 + (-1)) - 1).toNatClampNeg) = 0 →
            vp_in ((x4 + (-1)) - 1) 400 ∧
            ∀ S10, S10 = zup S 2122 ((x4 + (-1)) - 1).toNatClampNeg 0 →
            zW E l mX12_holds d b A (rQ G Q) k 12 [some (.ref (zp 416 0)), some (.int x1), none, some (.int x3), some (.int (x4 + (-1))), some (.int (x5 + 1)), none] [] (zput G S10)) ∧
          (¬ ((S 2122 ((x4 + (-1)) - 1).toNatClampNeg) = 0) →
            vp_in (x4 + (-1)) 400 ∧
            (((S 2122 (x4 + (-1)).toNatClampNeg) = 0 →
              vp_in ((x4 + (-1)) - 1) 400 ∧
              ∀ S11, S11 = zup S 2122 ((x4 + (-1)) - 1).toNatClampNeg 0 →
              zW E l mX12_holds d b A (rQ G Q) k 12 [some (.ref (zp 416 0)), some (.int x1), none, some (.int x3), some (.int (x4 + (-1))), some (.int (x5 + 1)), none] [] (zput G S11)) ∧
            (¬ ((S 2122 (x4 + (-1)).toNatClampNeg) = 0) →
              vp_in ((x4 + (-1)) - 1) 400 ∧
              ∀ S12, S12 = zup S 2122 ((x4 + (-1)) - 1).toNatClampNeg 1 →
              zW E l mX12_holds d b A (rQ G Q) k 12 [some (.ref (zp 416 0)), some (.int x1), none, some (.int x3), some (.int (x4 + (-1))), some (.int (x5 + 1)), none] [] (zput G S12)))))))))) ∧
    (¬ (¬ (S 1116 x5.toNatClampNeg) = 100) →
      vp_in (x4 - 1) 400 ∧
      ((¬ (S 2122 (x4 - 1).toNatClampNeg) = 0 →
        vp_in (x4 - 1) 400 ∧
        ∀ S13, S13 = zup S 2122 (x4 - 1).toNatClampNeg 0 →
        zW E l mX12_holds d b A (rQ G Q) k 12 [some (.ref (zp 416 0)), some (.int x1), none, some (.int x3), some (.int x4), some (.int (x5 + 1)), none] [] (zput G S13)) ∧
      (¬ (¬ (S 2122 (x4 - 1).toNatClampNeg) = 0) →
        vp_in (x4 - 1) 400 ∧
        ∀ S14, S14 = zup S 2122 (x4 - 1).toNatClampNeg 1 →
        zW E l mX12_holds d b A (rQ G Q) k 12 [some (.ref (zp 416 0)), some (.int x1), none, some (.int x3), some (.int x4), some (.int (x5 + 1)), none] [] (zput G S14)))))))
theorem rwpt_X12_holds_12 {E : ZE} {l : Launch} {d b : Nat} {A G : ZG} {Q : Option Value → ZS9 → Prop} {k : Nat} {x1 : Int32} {x3 : Int32} {x4 : Int32} {x5 : Int32} {S : ZS9} (hK : RK G) (h : rwp_X12_holds_12 E l d b A G Q k x1 x3 x4 x5 S) : zW E l mX12_holds d b A (rQ G Q) k 12 [some (.ref (zp 416 0)), some (.int x1), none, some (.int x3), some (.int x4), some (.int x5), none] [] (zput G S) := by
  unfold rwp_X12_holds_12 at h
  refine z_iload (pc' := 14) dX12_holds_12 rfl rfl ?_
  refine z_sipush (x := 400) (pc' := 17) dX12_holds_14 (by decide) rfl ?_
  refine z_iload_n (pc' := 18) dX12_holds_17 rfl rfl ?_
  refine z_imul (pc' := 19) dX12_holds_18 rfl rfl ?_
  refine z_iload_n (pc' := 20) dX12_holds_19 rfl rfl ?_
  refine z_iadd (pc' := 21) dX12_holds_20 rfl rfl ?_
  refine z_icmp_ge (pt := 262) (pc' := 24) dX12_holds_21 (by decide) rfl (fun hc => ?_) (fun hc => ?_)
  · have h := h.1 hc
    refine z_iload (pc' := 264) dX12_holds_262 rfl rfl ?_
    refine z_if_eq (pt := 276) (pc' := 267) dX12_holds_264 (by decide) rfl (fun hc => ?_) (fun hc => ?_)
    · have h := h.1 hc
      refine z_iconst (x := 1) (pc' := 277) dX12_holds_276 (by decide) rfl ?_
      refine z_goto (pc' := 281) dX12_holds_277 (by decide) ?_
      exact z_zret (ty := .boolean) dX12_holds_281 rfl (by decide) ⟨_, _, rfl, rfl, h⟩
    · have h := h.2 hc
      refine z_aload_n (pc' := 268) dX12_holds_267 rfl rfl ?_
      refine r_getA (kf := 22) (pc' := 271) hK rt_22 dX12_holds_268 kX12_51 rfl (by decide) (by decide) rfl ?_
      refine z_iconst (x := 0) (pc' := 272) dX12_holds_271 (by decide) rfl ?_
      obtain ⟨h1, h⟩ := h
      refine r_zald (pc' := 273) hK rt_22 rfl dX12_holds_272 rfl h1 ?_
      refine z_if_eq (pt := 280) (pc' := 276) dX12_holds_273 (by decide) rfl (fun hc => ?_) (fun hc => ?_)
      · have h := h.1 hc
        refine z_iconst (x := 0) (pc' := 281) dX12_holds_280 (by decide) rfl ?_
        exact z_zret (ty := .boolean) dX12_holds_281 rfl (by decide) ⟨_, _, rfl, rfl, h⟩
      · have h := h.2 hc
        refine z_iconst (x := 1) (pc' := 277) dX12_holds_276 (by decide) rfl ?_
        refine z_goto (pc' := 281) dX12_holds_277 (by decide) ?_
        exact z_zret (ty := .boolean) dX12_holds_281 rfl (by decide) ⟨_, _, rfl, rfl, h⟩
  · have h := h.2 hc
    refine z_aload_n (pc' := 25) dX12_holds_24 rfl rfl ?_
    refine r_getA (kf := 16) (pc' := 28) hK rt_16 dX12_holds_25 kX12_39 rfl (by decide) (by decide) rfl ?_
    refine z_iload (pc' := 30) dX12_holds_28 rfl rfl ?_
    obtain ⟨h1, h⟩ := h
    refine r_iald (pc' := 31) hK rt_16 rfl dX12_holds_30 rfl h1 ?_
    refine z_bipush (x := 100) (pc' := 33) dX12_holds_31 (by decide) rfl ?_
    refine z_icmp_ne (pt := 65) (pc' := 36) dX12_holds_33 (by decide) rfl (fun hc => ?_) (fun hc => ?_)
    · have h := h.1 hc
      refine z_aload_n (pc' := 66) dX12_holds_65 rfl rfl ?_
      refine r_getA (kf := 16) (pc' := 69) hK rt_16 dX12_holds_66 kX12_39 rfl (by decide) (by decide) rfl ?_
      refine z_iload (pc' := 71) dX12_holds_69 rfl rfl ?_
      obtain ⟨h1, h⟩ := h
      refine r_iald (pc' := 72) hK rt_16 rfl dX12_holds_71 rfl h1 ?_
      refine z_bipush (x := 101) (pc' := 74) dX12_holds_72 (by decide) rfl ?_
      refine z_icmp_lt (pt := 161) (pc' := 77) dX12_holds_74 (by decide) rfl (fun hc => ?_) (fun hc => ?_)
      · have h := h.1 hc
        refine z_aload_n (pc' := 162) dX12_holds_161 rfl rfl ?_
        refine r_getA (kf := 21) (pc' := 165) hK rt_21 dX12_holds_162 kX12_48 rfl (by decide) (by decide) rfl ?_
        refine z_aload_n (pc' := 166) dX12_holds_165 rfl rfl ?_
        refine r_getA (kf := 16) (pc' := 169) hK rt_16 dX12_holds_166 kX12_39 rfl (by decide) (by decide) rfl ?_
        refine z_iload (pc' := 171) dX12_holds_169 rfl rfl ?_
        obtain ⟨h1, h⟩ := h
        refine r_iald (pc' := 172) hK rt_16 rfl dX12_holds_171 rfl h1 ?_
        obtain ⟨h1, h⟩ := h
        refine r_iald (pc' := 173) hK rt_21 rfl dX12_holds_172 rfl h1 ?_
        refine z_istore (pc' := 175) dX12_holds_173 (by decide) rfl ?_
        refine z_aload_n (pc' := 176) dX12_holds_175 rfl rfl ?_
        refine r_getA (kf := 22) (pc' := 179) hK rt_22 dX12_holds_176 kX12_51 rfl (by decide) (by decide) rfl ?_
        refine z_iload (pc' := 181) dX12_holds_179 rfl rfl ?_
        refine z_aload_n (pc' := 182) dX12_holds_181 rfl rfl ?_
        refine r_getA (kf := 17) (pc' := 185) hK rt_17 dX12_holds_182 kX12_42 rfl (by decide) (by decide) rfl ?_
        refine z_iload (pc' := 187) dX12_holds_185 rfl rfl ?_
        obtain ⟨h1, h⟩ := h
        refine r_iald (pc' := 188) hK rt_17 rfl dX12_holds_187 rfl h1 ?_
        refine z_if_ne (pt := 204) (pc' := 191) dX12_holds_188 (by decide) rfl (fun hc => ?_) (fun hc => ?_)
        · have h := h.1 hc
          refine z_aload_n (pc' := 205) dX12_holds_204 rfl rfl ?_
          refine r_getA (kf := 17) (pc' := 208) hK rt_17 dX12_holds_205 kX12_42 rfl (by decide) (by decide) rfl ?_
          refine z_iload (pc' := 210) dX12_holds_208 rfl rfl ?_
          obtain ⟨h1, h⟩ := h
          refine r_iald (pc' := 211) hK rt_17 rfl dX12_holds_210 rfl h1 ?_
          refine z_iconst (x := 1) (pc' := 212) dX12_holds_211 (by decide) rfl ?_
          refine z_icmp_ne (pt := 235) (pc' := 215) dX12_holds_212 (by decide) rfl (fun hc => ?_) (fun hc => ?_)
          · have h := h.1 hc
            refine z_iload (pc' := 237) dX12_holds_235 rfl rfl ?_
            refine z_aload_n (pc' := 238) dX12_holds_237 rfl rfl ?_
            refine r_getA (kf := 18) (pc' := 241) hK rt_18 dX12_holds_238 kX12_45 rfl (by decide) (by decide) rfl ?_
            refine z_iload (pc' := 243) dX12_holds_241 rfl rfl ?_
            obtain ⟨h1, h⟩ := h
            refine r_iald (pc' := 244) hK rt_18 rfl dX12_holds_243 rfl h1 ?_
            refine z_icmp_le (pt := 251) (pc' := 247) dX12_holds_244 (by decide) rfl (fun hc => ?_) (fun hc => ?_)
            · have h := h.1 hc
              refine z_iconst (x := 0) (pc' := 252) dX12_holds_251 (by decide) rfl ?_
              obtain ⟨h1, h⟩ := h
              obtain ⟨S1, hG⟩ : ∃ z, z = zup S 2122 x4.toNatClampNeg 0 := ⟨_, rfl⟩
              have h := h _ hG
              refine r_zast (pc' := 253) hK rt_22 rfl dX12_holds_252 rfl h1 zok_0 ?_
              refine r_st hG ?_
              refine z_iinc (y := x4 + 1) (pc' := 256) dX12_holds_253 rfl (zinc_1 _) (by decide) rfl ?_
              refine z_iinc (y := x5 + 1) (pc' := 259) dX12_holds_256 rfl (zinc_1 _) (by decide) rfl ?_
              refine z_goto (pc' := 12) dX12_holds_259 (by decide) ?_
              exact z_dr (ls' := [some (.ref (zp 416 0)), some (.int x1), none, some (.int x3), some (.int (x4 + 1)), some (.int (x5 + 1)), none]) ⟨rfl, rfl, rfl, rfl, rfl, trivial⟩ h
            · have h := h.2 hc
              refine z_iconst (x := 1) (pc' := 248) dX12_holds_247 (by decide) rfl ?_
              refine z_goto (pc' := 252) dX12_holds_248 (by decide) ?_
              obtain ⟨h1, h⟩ := h
              obtain ⟨S2, hG⟩ : ∃ z, z = zup S 2122 x4.toNatClampNeg 1 := ⟨_, rfl⟩
              have h := h _ hG
              refine r_zast (pc' := 253) hK rt_22 rfl dX12_holds_252 rfl h1 zok_1 ?_
              refine r_st hG ?_
              refine z_iinc (y := x4 + 1) (pc' := 256) dX12_holds_253 rfl (zinc_1 _) (by decide) rfl ?_
              refine z_iinc (y := x5 + 1) (pc' := 259) dX12_holds_256 rfl (zinc_1 _) (by decide) rfl ?_
              refine z_goto (pc' := 12) dX12_holds_259 (by decide) ?_
              exact z_dr (ls' := [some (.ref (zp 416 0)), some (.int x1), none, some (.int x3), some (.int (x4 + 1)), some (.int (x5 + 1)), none]) ⟨rfl, rfl, rfl, rfl, rfl, trivial⟩ h
          · have h := h.2 hc
            refine z_iload (pc' := 217) dX12_holds_215 rfl rfl ?_
            refine z_aload_n (pc' := 218) dX12_holds_217 rfl rfl ?_
            refine r_getA (kf := 18) (pc' := 221) hK rt_18 dX12_holds_218 kX12_45 rfl (by decide) (by decide) rfl ?_
            refine z_iload (pc' := 223) dX12_holds_221 rfl rfl ?_
            obtain ⟨h1, h⟩ := h
            refine r_iald (pc' := 224) hK rt_18 rfl dX12_holds_223 rfl h1 ?_
            refine z_icmp_ge (pt := 231) (pc' := 227) dX12_holds_224 (by decide) rfl (fun hc => ?_) (fun hc => ?_)
            · have h := h.1 hc
              refine z_iconst (x := 0) (pc' := 232) dX12_holds_231 (by decide) rfl ?_
              refine z_goto (pc' := 252) dX12_holds_232 (by decide) ?_
              obtain ⟨h1, h⟩ := h
              obtain ⟨S3, hG⟩ : ∃ z, z = zup S 2122 x4.toNatClampNeg 0 := ⟨_, rfl⟩
              have h := h _ hG
              refine r_zast (pc' := 253) hK rt_22 rfl dX12_holds_252 rfl h1 zok_0 ?_
              refine r_st hG ?_
              refine z_iinc (y := x4 + 1) (pc' := 256) dX12_holds_253 rfl (zinc_1 _) (by decide) rfl ?_
              refine z_iinc (y := x5 + 1) (pc' := 259) dX12_holds_256 rfl (zinc_1 _) (by decide) rfl ?_
              refine z_goto (pc' := 12) dX12_holds_259 (by decide) ?_
              exact z_dr (ls' := [some (.ref (zp 416 0)), some (.int x1), none, some (.int x3), some (.int (x4 + 1)), some (.int (x5 + 1)), none]) ⟨rfl, rfl, rfl, rfl, rfl, trivial⟩ h
            · have h := h.2 hc
              refine z_iconst (x := 1) (pc' := 228) dX12_holds_227 (by decide) rfl ?_
              refine z_goto (pc' := 252) dX12_holds_228 (by decide) ?_
              obtain ⟨h1, h⟩ := h
              obtain ⟨S4, hG⟩ : ∃ z, z = zup S 2122 x4.toNatClampNeg 1 := ⟨_, rfl⟩
              have h := h _ hG
              refine r_zast (pc' := 253) hK rt_22 rfl dX12_holds_252 rfl h1 zok_1 ?_
              refine r_st hG ?_
              refine z_iinc (y := x4 + 1) (pc' := 256) dX12_holds_253 rfl (zinc_1 _) (by decide) rfl ?_
              refine z_iinc (y := x5 + 1) (pc' := 259) dX12_holds_256 rfl (zinc_1 _) (by decide) rfl ?_
              refine z_goto (pc' := 12) dX12_holds_259 (by decide) ?_
              exact z_dr (ls' := [some (.ref (zp 416 0)), some (.int x1), none, some (.int x3), some (.int (x4 + 1)), some (.int (x5 + 1)), none]) ⟨rfl, rfl, rfl, rfl, rfl, trivial⟩ h
        · have h := h.2 hc
          refine z_iload (pc' := 193) dX12_holds_191 rfl rfl ?_
          refine z_if_eq (pt := 200) (pc' := 196) dX12_holds_193 (by decide) rfl (fun hc => ?_) (fun hc => ?_)
          · have h := h.1 hc
            refine z_iconst (x := 0) (pc' := 201) dX12_holds_200 (by decide) rfl ?_
            refine z_goto (pc' := 252) dX12_holds_201 (by decide) ?_
            obtain ⟨h1, h⟩ := h
            obtain ⟨S5, hG⟩ : ∃ z, z = zup S 2122 x4.toNatClampNeg 0 := ⟨_, rfl⟩
            have h := h _ hG
            refine r_zast (pc' := 253) hK rt_22 rfl dX12_holds_252 rfl h1 zok_0 ?_
            refine r_st hG ?_
            refine z_iinc (y := x4 + 1) (pc' := 256) dX12_holds_253 rfl (zinc_1 _) (by decide) rfl ?_
            refine z_iinc (y := x5 + 1) (pc' := 259) dX12_holds_256 rfl (zinc_1 _) (by decide) rfl ?_
            refine z_goto (pc' := 12) dX12_holds_259 (by decide) ?_
            exact z_dr (ls' := [some (.ref (zp 416 0)), some (.int x1), none, some (.int x3), some (.int (x4 + 1)), some (.int (x5 + 1)), none]) ⟨rfl, rfl, rfl, rfl, rfl, trivial⟩ h
          · have h := h.2 hc
            refine z_iconst (x := 1) (pc' := 197) dX12_holds_196 (by decide) rfl ?_
            refine z_goto (pc' := 252) dX12_holds_197 (by decide) ?_
            obtain ⟨h1, h⟩ := h
            obtain ⟨S6, hG⟩ : ∃ z, z = zup S 2122 x4.toNatClampNeg 1 := ⟨_, rfl⟩
            have h := h _ hG
            refine r_zast (pc' := 253) hK rt_22 rfl dX12_holds_252 rfl h1 zok_1 ?_
            refine r_st hG ?_
            refine z_iinc (y := x4 + 1) (pc' := 256) dX12_holds_253 rfl (zinc_1 _) (by decide) rfl ?_
            refine z_iinc (y := x5 + 1) (pc' := 259) dX12_holds_256 rfl (zinc_1 _) (by decide) rfl ?_
            refine z_goto (pc' := 12) dX12_holds_259 (by decide) ?_
            exact z_dr (ls' := [some (.ref (zp 416 0)), some (.int x1), none, some (.int x3), some (.int (x4 + 1)), some (.int (x5 + 1)), none]) ⟨rfl, rfl, rfl, rfl, rfl, trivial⟩ h
      · have h := h.2 hc
        refine z_iinc (y := x4 + (-1)) (pc' := 80) dX12_holds_77 rfl (zinc_m1 _) (by decide) rfl ?_
        refine z_aload_n (pc' := 81) dX12_holds_80 rfl rfl ?_
        refine r_getA (kf := 22) (pc' := 84) hK rt_22 dX12_holds_81 kX12_51 rfl (by decide) (by decide) rfl ?_
        refine z_iload (pc' := 86) dX12_holds_84 rfl rfl ?_
        refine z_iconst (x := 1) (pc' := 87) dX12_holds_86 (by decide) rfl ?_
        refine z_isub (pc' := 88) dX12_holds_87 rfl rfl ?_
        refine z_aload_n (pc' := 89) dX12_holds_88 rfl rfl ?_
        refine r_getA (kf := 16) (pc' := 92) hK rt_16 dX12_holds_89 kX12_39 rfl (by decide) (by decide) rfl ?_
        refine z_iload (pc' := 94) dX12_holds_92 rfl rfl ?_
        obtain ⟨h1, h⟩ := h
        refine r_iald (pc' := 95) hK rt_16 rfl dX12_holds_94 rfl h1 ?_
        refine z_bipush (x := 101) (pc' := 97) dX12_holds_95 (by decide) rfl ?_
        refine z_icmp_ne (pt := 130) (pc' := 100) dX12_holds_97 (by decide) rfl (fun hc => ?_) (fun hc => ?_)
        · have h := h.1 hc
          refine z_aload_n (pc' := 131) dX12_holds_130 rfl rfl ?_
          refine r_getA (kf := 22) (pc' := 134) hK rt_22 dX12_holds_131 kX12_51 rfl (by decide) (by decide) rfl ?_
          refine z_iload (pc' := 136) dX12_holds_134 rfl rfl ?_
          refine z_iconst (x := 1) (pc' := 137) dX12_holds_136 (by decide) rfl ?_
          refine z_isub (pc' := 138) dX12_holds_137 rfl rfl ?_
          obtain ⟨h1, h⟩ := h
          refine r_zald (pc' := 139) hK rt_22 rfl dX12_holds_138 rfl h1 ?_
          refine z_if_ne (pt := 152) (pc' := 142) dX12_holds_139 (by decide) rfl (fun hc => ?_) (fun hc => ?_)
          · have h := h.1 hc
            refine z_iconst (x := 1) (pc' := 153) dX12_holds_152 (by decide) rfl ?_
            refine z_goto (pc' := 157) dX12_holds_153 (by decide) ?_
            obtain ⟨h1, h⟩ := h
            obtain ⟨S7, hG⟩ : ∃ z, z = zup S 2122 ((x4 + (-1)) - 1).toNatClampNeg 1 := ⟨_, rfl⟩
            have h := h _ hG
            refine r_zast (pc' := 158) hK rt_22 rfl dX12_holds_157 rfl h1 zok_1 ?_
            refine r_st hG ?_
            refine z_goto (pc' := 256) dX12_holds_158 (by decide) ?_
            refine z_iinc (y := x5 + 1) (pc' := 259) dX12_holds_256 rfl (zinc_1 _) (by decide) rfl ?_
            refine z_goto (pc' := 12) dX12_holds_259 (by decide) ?_
            exact z_dr (ls' := [some (.ref (zp 416 0)), some (.int x1), none, some (.int x3), some (.int (x4 + (-1))), some (.int (x5 + 1)), none]) ⟨rfl, rfl, rfl, rfl, rfl, trivial⟩ h
          · have h := h.2 hc
            refine z_aload_n (pc' := 143) dX12_holds_142 rfl rfl ?_
            refine r_getA (kf := 22) (pc' := 146) hK rt_22 dX12_holds_143 kX12_51 rfl (by decide) (by decide) rfl ?_
            refine z_iload (pc' := 148) dX12_holds_146 rfl rfl ?_
            obtain ⟨h1, h⟩ := h
            refine r_zald (pc' := 149) hK rt_22 rfl dX12_holds_148 rfl h1 ?_
            refine z_if_eq (pt := 156) (pc' := 152) dX12_holds_149 (by decide) rfl (fun hc => ?_) (fun hc => ?_)
            · have h := h.1 hc
              refine z_iconst (x := 0) (pc' := 157) dX12_holds_156 (by decide) rfl ?_
              obtain ⟨h1, h⟩ := h
              obtain ⟨S8, hG⟩ : ∃ z, z = zup S 2122 ((x4 + (-1)) - 1).toNatClampNeg 0 := ⟨_, rfl⟩
              have h := h _ hG
              refine r_zast (pc' := 158) hK rt_22 rfl dX12_holds_157 rfl h1 zok_0 ?_
              refine r_st hG ?_
              refine z_goto (pc' := 256) dX12_holds_158 (by decide) ?_
              refine z_iinc (y := x5 + 1) (pc' := 259) dX12_holds_256 rfl (zinc_1 _) (by decide) rfl ?_
              refine z_goto (pc' := 12) dX12_holds_259 (by decide) ?_
              exact z_dr (ls' := [some (.ref (zp 416 0)), some (.int x1), none, some (.int x3), some (.int (x4 + (-1))), some (.int (x5 + 1)), none]) ⟨rfl, rfl, rfl, rfl, rfl, trivial⟩ h
            · have h := h.2 hc
              refine z_iconst (x := 1) (pc' := 153) dX12_holds_152 (by decide) rfl ?_
              refine z_goto (pc' := 157) dX12_holds_153 (by decide) ?_
              obtain ⟨h1, h⟩ := h
              obtain ⟨S9, hG⟩ : ∃ z, z = zup S 2122 ((x4 + (-1)) - 1).toNatClampNeg 1 := ⟨_, rfl⟩
              have h := h _ hG
              refine r_zast (pc' := 158) hK rt_22 rfl dX12_holds_157 rfl h1 zok_1 ?_
              refine r_st hG ?_
              refine z_goto (pc' := 256) dX12_holds_158 (by decide) ?_
              refine z_iinc (y := x5 + 1) (pc' := 259) dX12_holds_256 rfl (zinc_1 _) (by decide) rfl ?_
              refine z_goto (pc' := 12) dX12_holds_259 (by decide) ?_
              exact z_dr (ls' := [some (.ref (zp 416 0)), some (.int x1), none, some (.int x3), some (.int (x4 + (-1))), some (.int (x5 + 1)), none]) ⟨rfl, rfl, rfl, rfl, rfl, trivial⟩ h
        · have h := h.2 hc
          refine z_aload_n (pc' := 101) dX12_holds_100 rfl rfl ?_
          refine r_getA (kf := 22) (pc' := 104) hK rt_22 dX12_holds_101 kX12_51 rfl (by decide) (by decide) rfl ?_
          refine z_iload (pc' := 106) dX12_holds_104 rfl rfl ?_
          refine z_iconst (x := 1) (pc' := 107) dX12_holds_106 (by decide) rfl ?_
          refine z_isub (pc' := 108) dX12_holds_107 rfl rfl ?_
          obtain ⟨h1, h⟩ := h
          refine r_zald (pc' := 109) hK rt_22 rfl dX12_holds_108 rfl h1 ?_
          refine z_if_eq (pt := 126) (pc' := 112) dX12_holds_109 (by decide) rfl (fun hc => ?_) (fun hc => ?_)
          · have h := h.1 hc
            refine z_iconst (x := 0) (pc' := 127) dX12_holds_126 (by decide) rfl ?_
            refine z_goto (pc' := 157) dX12_holds_127 (by decide) ?_
            obtain ⟨h1, h⟩ := h
            obtain ⟨S10, hG⟩ : ∃ z, z = zup S 2122 ((x4 + (-1)) - 1).toNatClampNeg 0 := ⟨_, rfl⟩
            have h := h _ hG
            refine r_zast (pc' := 158) hK rt_22 rfl dX12_holds_157 rfl h1 zok_0 ?_
            refine r_st hG ?_
            refine z_goto (pc' := 256) dX12_holds_158 (by decide) ?_
            refine z_iinc (y := x5 + 1) (pc' := 259) dX12_holds_256 rfl (zinc_1 _) (by decide) rfl ?_
            refine z_goto (pc' := 12) dX12_holds_259 (by decide) ?_
            exact z_dr (ls' := [some (.ref (zp 416 0)), some (.int x1), none, some (.int x3), some (.int (x4 + (-1))), some (.int (x5 + 1)), none]) ⟨rfl, rfl, rfl, rfl, rfl, trivial⟩ h
          · have h := h.2 hc
            refine z_aload_n (pc' := 113) dX12_holds_112 rfl rfl ?_
            refine r_getA (kf := 22) (pc' := 116) hK rt_22 dX12_holds_113 kX12_51 rfl (by decide) (by decide) rfl ?_
            refine z_iload (pc' := 118) dX12_holds_116 rfl rfl ?_
            obtain ⟨h1, h⟩ := h
            refine r_zald (pc' := 119) hK rt_22 rfl dX12_holds_118 rfl h1 ?_
            refine z_if_eq (pt := 126) (pc' := 122) dX12_holds_119 (by decide) rfl (fun hc => ?_) (fun hc => ?_)
            · have h := h.1 hc
              refine z_iconst (x := 0) (pc' := 127) dX12_holds_126 (by decide) rfl ?_
              refine z_goto (pc' := 157) dX12_holds_127 (by decide) ?_
              obtain ⟨h1, h⟩ := h
              obtain ⟨S11, hG⟩ : ∃ z, z = zup S 2122 ((x4 + (-1)) - 1).toNatClampNeg 0 := ⟨_, rfl⟩
              have h := h _ hG
              refine r_zast (pc' := 158) hK rt_22 rfl dX12_holds_157 rfl h1 zok_0 ?_
              refine r_st hG ?_
              refine z_goto (pc' := 256) dX12_holds_158 (by decide) ?_
              refine z_iinc (y := x5 + 1) (pc' := 259) dX12_holds_256 rfl (zinc_1 _) (by decide) rfl ?_
              refine z_goto (pc' := 12) dX12_holds_259 (by decide) ?_
              exact z_dr (ls' := [some (.ref (zp 416 0)), some (.int x1), none, some (.int x3), some (.int (x4 + (-1))), some (.int (x5 + 1)), none]) ⟨rfl, rfl, rfl, rfl, rfl, trivial⟩ h
            · have h := h.2 hc
              refine z_iconst (x := 1) (pc' := 123) dX12_holds_122 (by decide) rfl ?_
              refine z_goto (pc' := 157) dX12_holds_123 (by decide) ?_
              obtain ⟨h1, h⟩ := h
              obtain ⟨S12, hG⟩ : ∃ z, z = zup S 2122 ((x4 + (-1)) - 1).toNatClampNeg 1 := ⟨_, rfl⟩
              have h := h _ hG
              refine r_zast (pc' := 158) hK rt_22 rfl dX12_holds_157 rfl h1 zok_1 ?_
              refine r_st hG ?_
              refine z_goto (pc' := 256) dX12_holds_158 (by decide) ?_
              refine z_iinc (y := x5 + 1) (pc' := 259) dX12_holds_256 rfl (zinc_1 _) (by decide) rfl ?_
              refine z_goto (pc' := 12) dX12_holds_259 (by decide) ?_
              exact z_dr (ls' := [some (.ref (zp 416 0)), some (.int x1), none, some (.int x3), some (.int (x4 + (-1))), some (.int (x5 + 1)), none]) ⟨rfl, rfl, rfl, rfl, rfl, trivial⟩ h
    · have h := h.2 hc
      refine z_aload_n (pc' := 37) dX12_holds_36 rfl rfl ?_
      refine r_getA (kf := 22) (pc' := 40) hK rt_22 dX12_holds_37 kX12_51 rfl (by decide) (by decide) rfl ?_
      refine z_iload (pc' := 42) dX12_holds_40 rfl rfl ?_
      refine z_iconst (x := 1) (pc' := 43) dX12_holds_42 (by decide) rfl ?_
      refine z_isub (pc' := 44) dX12_holds_43 rfl rfl ?_
      refine z_aload_n (pc' := 45) dX12_holds_44 rfl rfl ?_
      refine r_getA (kf := 22) (pc' := 48) hK rt_22 dX12_holds_45 kX12_51 rfl (by decide) (by decide) rfl ?_
      refine z_iload (pc' := 50) dX12_holds_48 rfl rfl ?_
      refine z_iconst (x := 1) (pc' := 51) dX12_holds_50 (by decide) rfl ?_
      refine z_isub (pc' := 52) dX12_holds_51 rfl rfl ?_
      obtain ⟨h1, h⟩ := h
      refine r_zald (pc' := 53) hK rt_22 rfl dX12_holds_52 rfl h1 ?_
      refine z_if_ne (pt := 60) (pc' := 56) dX12_holds_53 (by decide) rfl (fun hc => ?_) (fun hc => ?_)
      · have h := h.1 hc
        refine z_iconst (x := 0) (pc' := 61) dX12_holds_60 (by decide) rfl ?_
        obtain ⟨h1, h⟩ := h
        obtain ⟨S13, hG⟩ : ∃ z, z = zup S 2122 (x4 - 1).toNatClampNeg 0 := ⟨_, rfl⟩
        have h := h _ hG
        refine r_zast (pc' := 62) hK rt_22 rfl dX12_holds_61 rfl h1 zok_0 ?_
        refine r_st hG ?_
        refine z_goto (pc' := 256) dX12_holds_62 (by decide) ?_
        refine z_iinc (y := x5 + 1) (pc' := 259) dX12_holds_256 rfl (zinc_1 _) (by decide) rfl ?_
        refine z_goto (pc' := 12) dX12_holds_259 (by decide) ?_
        exact z_dr (ls' := [some (.ref (zp 416 0)), some (.int x1), none, some (.int x3), some (.int x4), some (.int (x5 + 1)), none]) ⟨rfl, rfl, rfl, rfl, rfl, trivial⟩ h
      · have h := h.2 hc
        refine z_iconst (x := 1) (pc' := 57) dX12_holds_56 (by decide) rfl ?_
        refine z_goto (pc' := 61) dX12_holds_57 (by decide) ?_
        obtain ⟨h1, h⟩ := h
        obtain ⟨S14, hG⟩ : ∃ z, z = zup S 2122 (x4 - 1).toNatClampNeg 1 := ⟨_, rfl⟩
        have h := h _ hG
        refine r_zast (pc' := 62) hK rt_22 rfl dX12_holds_61 rfl h1 zok_1 ?_
        refine r_st hG ?_
        refine z_goto (pc' := 256) dX12_holds_62 (by decide) ?_
        refine z_iinc (y := x5 + 1) (pc' := 259) dX12_holds_256 rfl (zinc_1 _) (by decide) rfl ?_
        refine z_goto (pc' := 12) dX12_holds_259 (by decide) ?_
        exact z_dr (ls' := [some (.ref (zp 416 0)), some (.int x1), none, some (.int x3), some (.int x4), some (.int (x5 + 1)), none]) ⟨rfl, rfl, rfl, rfl, rfl, trivial⟩ h
def rwp_X12_inState_0 (E : ZE) (l : Launch) (d b : Nat) (A G : ZG) (Q : Option Value → ZS9 → Prop) (k : Nat) (x1 : Int32) (x2 : Int32) (S : ZS9) : Prop :=
  zW E l mX12_inState d b A (rQ G Q) k 5 [some (.ref (zp 416 0)), some (.int x1), some (.int x2), some (.int 0), some (.int 0)] [] (zput G S)
theorem rwpt_X12_inState_0 {E : ZE} {l : Launch} {d b : Nat} {A G : ZG} {Q : Option Value → ZS9 → Prop} {k : Nat} {x1 : Int32} {x2 : Int32} {S : ZS9} (hK : RK G) (h : rwp_X12_inState_0 E l d b A G Q k x1 x2 S) : zW E l mX12_inState d b A (rQ G Q) k 0 [some (.ref (zp 416 0)), some (.int x1), some (.int x2), none, none] [] (zput G S) := by
  unfold rwp_X12_inState_0 at h
  refine z_iconst (x := 0) (pc' := 1) dX12_inState_0 (by decide) rfl ?_
  refine z_istore_n (pc' := 2) dX12_inState_1 (by decide) rfl ?_
  refine z_iconst (x := 0) (pc' := 3) dX12_inState_2 (by decide) rfl ?_
  refine z_istore (pc' := 5) dX12_inState_3 (by decide) rfl ?_
  exact z_dr (ls' := [some (.ref (zp 416 0)), some (.int x1), some (.int x2), some (.int 0), some (.int 0)]) ⟨rfl, rfl, rfl, rfl, rfl, trivial⟩ h
def rwp_X12_inState_5 (E : ZE) (l : Launch) (d b : Nat) (A G : ZG) (Q : Option Value → ZS9 → Prop) (k : Nat) (x1 : Int32) (x2 : Int32) (x3 : Int32) (x4 : Int32) (S : ZS9) : Prop :=
  (((S 416 66) ≤ x4 →
    Q (some (.int x3)) S) ∧
  (¬ ((S 416 66) ≤ x4) →
    rcI E l mX12_now d [.int x4, .int 0] S k (fun y3 S1 k2 =>
    scI E l mX12_in d [.int y3, .int x1, .int x2] (fun y4 =>
    ((y4 = 0 →
      zW E l mX12_inState d b A (rQ G Q) k2 5 [some (.ref (zp 416 0)), some (.int x1), some (.int x2), some (.int (x3 + 0)), some (.int (x4 + 1))] [] (zput G S1)) ∧
    (¬ (y4 = 0) →
      zW E l mX12_inState d b A (rQ G Q) k2 5 [some (.ref (zp 416 0)), some (.int x1), some (.int x2), some (.int (x3 + 1)), some (.int (x4 + 1))] [] (zput G S1)))))))
theorem rwpt_X12_inState_5 {E : ZE} {l : Launch} {d b : Nat} {A G : ZG} {Q : Option Value → ZS9 → Prop} {k : Nat} {x1 : Int32} {x2 : Int32} {x3 : Int32} {x4 : Int32} {S : ZS9} (hK : RK G) (h : rwp_X12_inState_5 E l d b A G Q k x1 x2 x3 x4 S) : zW E l mX12_inState d b A (rQ G Q) k 5 [some (.ref (zp 416 0)), some (.int x1), some (.int x2), some (.int x3), some (.int x4)] [] (zput G S) := by
  unfold rwp_X12_inState_5 at h
  refine z_iload (pc' := 7) dX12_inState_5 rfl rfl ?_
  refine z_aload_n (pc' := 8) dX12_inState_7 rfl rfl ?_
  refine r_getI (kf := 66) (pc' := 11) hK dX12_inState_8 kX12_412 rfl (by decide) (by decide) rfl ?_
  refine z_icmp_ge (pt := 43) (pc' := 14) dX12_inState_11 (by decide) rfl (fun hc => ?_) (fun hc => ?_)
  · have h := h.1 hc
    refine z_iload_n (pc' := 44) dX12_inState_43 rfl rfl ?_
    exact z_iret dX12_inState_44 rfl ⟨_, _, rfl, rfl, h⟩
  · have h := h.2 hc
    refine z_iload_n (pc' := 15) dX12_inState_14 rfl rfl ?_
    refine z_aload_n (pc' := 16) dX12_inState_15 rfl rfl ?_
    refine z_iload (pc' := 18) dX12_inState_16 rfl rfl ?_
    refine z_iconst (x := 0) (pc' := 19) dX12_inState_18 (by decide) rfl ?_
    refine r_callI (Y := mX12_now) (n := 2) (as := [.int x4, .int 0]) (st := [.int x3]) (pc' := 22) h hK dX12_inState_19 kX12_434 vX12_now rfl rfl rfl (Nat.le_of_ble_eq_true rfl) (fun y3 S1 k2 h => ?_)
    refine z_iload_n (pc' := 23) dX12_inState_22 rfl rfl ?_
    refine z_iload_n (pc' := 24) dX12_inState_23 rfl rfl ?_
    refine r_callSI (Y := mX12_in) (n := 3) (as := [.int y3, .int x1, .int x2]) (st := [.int x3]) (pc' := 27) h dX12_inState_24 kX12_317 sX12_in rfl rfl (Nat.le_of_ble_eq_true rfl) (fun y4 h => ?_)
    refine z_if_eq (pt := 34) (pc' := 30) dX12_inState_27 (by decide) rfl (fun hc => ?_) (fun hc => ?_)
    · have h := h.1 hc
      refine z_iconst (x := 0) (pc' := 35) dX12_inState_34 (by decide) rfl ?_
      refine z_iadd (pc' := 36) dX12_inState_35 rfl rfl ?_
      refine z_istore_n (pc' := 37) dX12_inState_36 (by decide) rfl ?_
      refine z_iinc (y := x4 + 1) (pc' := 40) dX12_inState_37 rfl (zinc_1 _) (by decide) rfl ?_
      refine z_goto (pc' := 5) dX12_inState_40 (by decide) ?_
      exact z_dr (ls' := [some (.ref (zp 416 0)), some (.int x1), some (.int x2), some (.int (x3 + 0)), some (.int (x4 + 1))]) ⟨rfl, rfl, rfl, rfl, rfl, trivial⟩ h
    · have h := h.2 hc
      refine z_iconst (x := 1) (pc' := 31) dX12_inState_30 (by decide) rfl ?_
      refine z_goto (pc' := 35) dX12_inState_31 (by decide) ?_
      refine z_iadd (pc' := 36) dX12_inState_35 rfl rfl ?_
      refine z_istore_n (pc' := 37) dX12_inState_36 (by decide) rfl ?_
      refine z_iinc (y := x4 + 1) (pc' := 40) dX12_inState_37 rfl (zinc_1 _) (by decide) rfl ?_
      refine z_goto (pc' := 5) dX12_inState_40 (by decide) ?_
      exact z_dr (ls' := [some (.ref (zp 416 0)), some (.int x1), some (.int x2), some (.int (x3 + 1)), some (.int (x4 + 1))]) ⟨rfl, rfl, rfl, rfl, rfl, trivial⟩ h
def rwp_X12_isAhead_0 (E : ZE) (l : Launch) (d b : Nat) (A G : ZG) (Q : Option Value → ZS9 → Prop) (k : Nat) (x1 : Int32) (x2 : Int32) (x3 : Int32) (S : ZS9) : Prop :=
  vp_in x1 120 ∧
  vp_in x2 120 ∧
  (((S 2158 x1.toNatClampNeg) = (S 2158 x2.toNatClampNeg) →
    ((¬ x3 = 0 →
      zW E l mX12_isAhead d b A (rQ G Q) k 62 [some (.ref (zp 416 0)), some (.int x1), some (.int x2), some (.int x3)] [] (zput G S)) ∧
    (¬ (¬ x3 = 0) →
      vp_in x1 120 ∧
      vp_in x2 120 ∧
      (((S 1155 x1.toNatClampNeg) = (S 1155 x2.toNatClampNeg) →
        zW E l mX12_isAhead d b A (rQ G Q) k 62 [some (.ref (zp 416 0)), some (.int x1), some (.int x2), some (.int x3)] [] (zput G S)) ∧
      (¬ ((S 1155 x1.toNatClampNeg) = (S 1155 x2.toNatClampNeg)) →
        vp_in x1 120 ∧
        vp_in x2 120 ∧
        (((S 1155 x2.toNatClampNeg) ≤ (S 1155 x1.toNatClampNeg) →
          Q (some (.int 0)) S) ∧
        (¬ ((S 1155 x2.toNatClampNeg) ≤ (S 1155 x1.toNatClampNeg)) →
          Q (some (.int 1)) S))))))) ∧
  (¬ ((S 2158 x1.toNatClampNeg) = (S 2158 x2.toNatClampNeg)) →
    vp_in x1 120 ∧
    narrow .boolean (.int (S 2158 x1.toNatClampNeg)) = .int (S 2158 x1.toNatClampNeg) ∧ Q (some (.int (S 2158 x1.toNatClampNeg))) S))
theorem rwpt_X12_isAhead_0 {E : ZE} {l : Launch} {d b : Nat} {A G : ZG} {Q : Option Value → ZS9 → Prop} {k : Nat} {x1 : Int32} {x2 : Int32} {x3 : Int32} {S : ZS9} (hK : RK G) (h : rwp_X12_isAhead_0 E l d b A G Q k x1 x2 x3 S) : zW E l mX12_isAhead d b A (rQ G Q) k 0 [some (.ref (zp 416 0)), some (.int x1), some (.int x2), some (.int x3)] [] (zput G S) := by
  unfold rwp_X12_isAhead_0 at h
  refine z_aload_n (pc' := 1) dX12_isAhead_0 rfl rfl ?_
  refine r_getA (kf := 58) (pc' := 4) hK rt_58 dX12_isAhead_1 kX12_127 rfl (by decide) (by decide) rfl ?_
  refine z_iload_n (pc' := 5) dX12_isAhead_4 rfl rfl ?_
  obtain ⟨h1, h⟩ := h
  refine r_zald (pc' := 6) hK rt_58 rfl dX12_isAhead_5 rfl h1 ?_
  refine z_aload_n (pc' := 7) dX12_isAhead_6 rfl rfl ?_
  refine r_getA (kf := 58) (pc' := 10) hK rt_58 dX12_isAhead_7 kX12_127 rfl (by decide) (by decide) rfl ?_
  refine z_iload_n (pc' := 11) dX12_isAhead_10 rfl rfl ?_
  obtain ⟨h1, h⟩ := h
  refine r_zald (pc' := 12) hK rt_58 rfl dX12_isAhead_11 rfl h1 ?_
  refine z_icmp_eq (pt := 22) (pc' := 15) dX12_isAhead_12 (by decide) rfl (fun hc => ?_) (fun hc => ?_)
  · have h := h.1 hc
    refine z_iload_n (pc' := 23) dX12_isAhead_22 rfl rfl ?_
    refine z_if_ne (pt := 62) (pc' := 26) dX12_isAhead_23 (by decide) rfl (fun hc => ?_) (fun hc => ?_)
    · have h := h.1 hc
      exact z_dr (ls' := [some (.ref (zp 416 0)), some (.int x1), some (.int x2), some (.int x3)]) ⟨rfl, rfl, rfl, rfl, trivial⟩ h
    · have h := h.2 hc
      refine z_aload_n (pc' := 27) dX12_isAhead_26 rfl rfl ?_
      refine r_getA (kf := 55) (pc' := 30) hK rt_55 dX12_isAhead_27 kX12_118 rfl (by decide) (by decide) rfl ?_
      refine z_iload_n (pc' := 31) dX12_isAhead_30 rfl rfl ?_
      obtain ⟨h1, h⟩ := h
      refine r_iald (pc' := 32) hK rt_55 rfl dX12_isAhead_31 rfl h1 ?_
      refine z_aload_n (pc' := 33) dX12_isAhead_32 rfl rfl ?_
      refine r_getA (kf := 55) (pc' := 36) hK rt_55 dX12_isAhead_33 kX12_118 rfl (by decide) (by decide) rfl ?_
      refine z_iload_n (pc' := 37) dX12_isAhead_36 rfl rfl ?_
      obtain ⟨h1, h⟩ := h
      refine r_iald (pc' := 38) hK rt_55 rfl dX12_isAhead_37 rfl h1 ?_
      refine z_icmp_eq (pt := 62) (pc' := 41) dX12_isAhead_38 (by decide) rfl (fun hc => ?_) (fun hc => ?_)
      · have h := h.1 hc
        exact z_dr (ls' := [some (.ref (zp 416 0)), some (.int x1), some (.int x2), some (.int x3)]) ⟨rfl, rfl, rfl, rfl, trivial⟩ h
      · have h := h.2 hc
        refine z_aload_n (pc' := 42) dX12_isAhead_41 rfl rfl ?_
        refine r_getA (kf := 55) (pc' := 45) hK rt_55 dX12_isAhead_42 kX12_118 rfl (by decide) (by decide) rfl ?_
        refine z_iload_n (pc' := 46) dX12_isAhead_45 rfl rfl ?_
        obtain ⟨h1, h⟩ := h
        refine r_iald (pc' := 47) hK rt_55 rfl dX12_isAhead_46 rfl h1 ?_
        refine z_aload_n (pc' := 48) dX12_isAhead_47 rfl rfl ?_
        refine r_getA (kf := 55) (pc' := 51) hK rt_55 dX12_isAhead_48 kX12_118 rfl (by decide) (by decide) rfl ?_
        refine z_iload_n (pc' := 52) dX12_isAhead_51 rfl rfl ?_
        obtain ⟨h1, h⟩ := h
        refine r_iald (pc' := 53) hK rt_55 rfl dX12_isAhead_52 rfl h1 ?_
        refine z_icmp_ge (pt := 60) (pc' := 56) dX12_isAhead_53 (by decide) rfl (fun hc => ?_) (fun hc => ?_)
        · have h := h.1 hc
          refine z_iconst (x := 0) (pc' := 61) dX12_isAhead_60 (by decide) rfl ?_
          exact z_zret (ty := .boolean) dX12_isAhead_61 rfl (by decide) ⟨_, _, rfl, rfl, h⟩
        · have h := h.2 hc
          refine z_iconst (x := 1) (pc' := 57) dX12_isAhead_56 (by decide) rfl ?_
          refine z_goto (pc' := 61) dX12_isAhead_57 (by decide) ?_
          exact z_zret (ty := .boolean) dX12_isAhead_61 rfl (by decide) ⟨_, _, rfl, rfl, h⟩
  · have h := h.2 hc
    refine z_aload_n (pc' := 16) dX12_isAhead_15 rfl rfl ?_
    refine r_getA (kf := 58) (pc' := 19) hK rt_58 dX12_isAhead_16 kX12_127 rfl (by decide) (by decide) rfl ?_
    refine z_iload_n (pc' := 20) dX12_isAhead_19 rfl rfl ?_
    obtain ⟨h1, h⟩ := h
    refine r_zald (pc' := 21) hK rt_58 rfl dX12_isAhead_20 rfl h1 ?_
    exact z_zret (ty := .boolean) dX12_isAhead_21 rfl h.1 ⟨_, _, rfl, rfl, h.2⟩
def rwp_X12_isAhead_62 (E : ZE) (l : Launch) (d b : Nat) (A G : ZG) (Q : Option Value → ZS9 → Prop) (k : Nat) (x1 : Int32) (x2 : Int32) (x3 : Int32) (S : ZS9) : Prop :=
  ((¬ x3 = 2 →
    zW E l mX12_isAhead d b A (rQ G Q) k 86 [some (.ref (zp 416 0)), some (.int x1), some (.int x2), some (.int x3)] [] (zput G S)) ∧
  (¬ (¬ x3 = 2) →
    rcI E l mX12_hasTicket d [.int x1] S k (fun y3 S1 k2 =>
    rcI E l mX12_hasTicket d [.int x2] S1 k2 (fun y6 S4 k5 =>
    ((y3 = y6 →
      zW E l mX12_isAhead d b A (rQ G Q) k5 86 [some (.ref (zp 416 0)), some (.int x1), some (.int x2), some (.int x3)] [] (zput G S4)) ∧
    (¬ (y3 = y6) →
      rcI E l mX12_hasTicket d [.int x1] S4 k5 (fun y9 S7 k8 =>
      narrow .boolean (.int y9) = .int y9 ∧ Q (some (.int y9)) S7)))))))
theorem rwpt_X12_isAhead_62 {E : ZE} {l : Launch} {d b : Nat} {A G : ZG} {Q : Option Value → ZS9 → Prop} {k : Nat} {x1 : Int32} {x2 : Int32} {x3 : Int32} {S : ZS9} (hK : RK G) (h : rwp_X12_isAhead_62 E l d b A G Q k x1 x2 x3 S) : zW E l mX12_isAhead d b A (rQ G Q) k 62 [some (.ref (zp 416 0)), some (.int x1), some (.int x2), some (.int x3)] [] (zput G S) := by
  unfold rwp_X12_isAhead_62 at h
  refine z_iload_n (pc' := 63) dX12_isAhead_62 rfl rfl ?_
  refine z_iconst (x := 2) (pc' := 64) dX12_isAhead_63 (by decide) rfl ?_
  refine z_icmp_ne (pt := 86) (pc' := 67) dX12_isAhead_64 (by decide) rfl (fun hc => ?_) (fun hc => ?_)
  · have h := h.1 hc
    exact z_dr (ls' := [some (.ref (zp 416 0)), some (.int x1), some (.int x2), some (.int x3)]) ⟨rfl, rfl, rfl, rfl, trivial⟩ h
  · have h := h.2 hc
    refine z_aload_n (pc' := 68) dX12_isAhead_67 rfl rfl ?_
    refine z_iload_n (pc' := 69) dX12_isAhead_68 rfl rfl ?_
    refine r_callI (Y := mX12_hasTicket) (n := 1) (as := [.int x1]) (st := []) (pc' := 72) h hK dX12_isAhead_69 kX12_444 vX12_hasTicket rfl rfl rfl (Nat.le_of_ble_eq_true rfl) (fun y3 S1 k2 h => ?_)
    refine z_aload_n (pc' := 73) dX12_isAhead_72 rfl rfl ?_
    refine z_iload_n (pc' := 74) dX12_isAhead_73 rfl rfl ?_
    refine r_callI (Y := mX12_hasTicket) (n := 1) (as := [.int x2]) (st := [.int y3]) (pc' := 77) h hK dX12_isAhead_74 kX12_444 vX12_hasTicket rfl rfl rfl (Nat.le_of_ble_eq_true rfl) (fun y6 S4 k5 h => ?_)
    refine z_icmp_eq (pt := 86) (pc' := 80) dX12_isAhead_77 (by decide) rfl (fun hc => ?_) (fun hc => ?_)
    · have h := h.1 hc
      exact z_dr (ls' := [some (.ref (zp 416 0)), some (.int x1), some (.int x2), some (.int x3)]) ⟨rfl, rfl, rfl, rfl, trivial⟩ h
    · have h := h.2 hc
      refine z_aload_n (pc' := 81) dX12_isAhead_80 rfl rfl ?_
      refine z_iload_n (pc' := 82) dX12_isAhead_81 rfl rfl ?_
      refine r_callI (Y := mX12_hasTicket) (n := 1) (as := [.int x1]) (st := []) (pc' := 85) h hK dX12_isAhead_82 kX12_444 vX12_hasTicket rfl rfl rfl (Nat.le_of_ble_eq_true rfl) (fun y9 S7 k8 h => ?_)
      exact z_zret (ty := .boolean) dX12_isAhead_85 rfl h.1 ⟨_, _, rfl, rfl, h.2⟩
def rwp_X12_isAhead_86 (E : ZE) (l : Launch) (d b : Nat) (A G : ZG) (Q : Option Value → ZS9 → Prop) (k : Nat) (x1 : Int32) (x2 : Int32) (x3 : Int32) (S : ZS9) : Prop :=
  ((x3 ≤ 0 →
    ((x2 ≤ x1 →
      Q (some (.int 0)) S) ∧
    (¬ (x2 ≤ x1) →
      Q (some (.int 1)) S))) ∧
  (¬ (x3 ≤ 0) →
    vp_in x1 120 ∧
    vp_in x2 120 ∧
    (((S 1156 x1.toNatClampNeg) = (S 1156 x2.toNatClampNeg) →
      ((x2 ≤ x1 →
        Q (some (.int 0)) S) ∧
      (¬ (x2 ≤ x1) →
        Q (some (.int 1)) S))) ∧
    (¬ ((S 1156 x1.toNatClampNeg) = (S 1156 x2.toNatClampNeg)) →
      vp_in x1 120 ∧
      vp_in x2 120 ∧
      (((S 1156 x2.toNatClampNeg) ≤ (S 1156 x1.toNatClampNeg) →
        Q (some (.int 0)) S) ∧
      (¬ ((S 1156 x2.toNatClampNeg) ≤ (S 1156 x1.toNatClampNeg)) →
        Q (some (.int 1)) S))))))
theorem rwpt_X12_isAhead_86 {E : ZE} {l : Launch} {d b : Nat} {A G : ZG} {Q : Option Value → ZS9 → Prop} {k : Nat} {x1 : Int32} {x2 : Int32} {x3 : Int32} {S : ZS9} (hK : RK G) (h : rwp_X12_isAhead_86 E l d b A G Q k x1 x2 x3 S) : zW E l mX12_isAhead d b A (rQ G Q) k 86 [some (.ref (zp 416 0)), some (.int x1), some (.int x2), some (.int x3)] [] (zput G S) := by
  unfold rwp_X12_isAhead_86 at h
  refine z_iload_n (pc' := 87) dX12_isAhead_86 rfl rfl ?_
  refine z_if_le (pt := 126) (pc' := 90) dX12_isAhead_87 (by decide) rfl (fun hc => ?_) (fun hc => ?_)
  · have h := h.1 hc
    refine z_iload_n (pc' := 127) dX12_isAhead_126 rfl rfl ?_
    refine z_iload_n (pc' := 128) dX12_isAhead_127 rfl rfl ?_
    refine z_icmp_ge (pt := 135) (pc' := 131) dX12_isAhead_128 (by decide) rfl (fun hc => ?_) (fun hc => ?_)
    · have h := h.1 hc
      refine z_iconst (x := 0) (pc' := 136) dX12_isAhead_135 (by decide) rfl ?_
      exact z_zret (ty := .boolean) dX12_isAhead_136 rfl (by decide) ⟨_, _, rfl, rfl, h⟩
    · have h := h.2 hc
      refine z_iconst (x := 1) (pc' := 132) dX12_isAhead_131 (by decide) rfl ?_
      refine z_goto (pc' := 136) dX12_isAhead_132 (by decide) ?_
      exact z_zret (ty := .boolean) dX12_isAhead_136 rfl (by decide) ⟨_, _, rfl, rfl, h⟩
  · have h := h.2 hc
    refine z_aload_n (pc' := 91) dX12_isAhead_90 rfl rfl ?_
    refine r_getA (kf := 56) (pc' := 94) hK rt_56 dX12_isAhead_91 kX12_121 rfl (by decide) (by decide) rfl ?_
    refine z_iload_n (pc' := 95) dX12_isAhead_94 rfl rfl ?_
    obtain ⟨h1, h⟩ := h
    refine r_iald (pc' := 96) hK rt_56 rfl dX12_isAhead_95 rfl h1 ?_
    refine z_aload_n (pc' := 97) dX12_isAhead_96 rfl rfl ?_
    refine r_getA (kf := 56) (pc' := 100) hK rt_56 dX12_isAhead_97 kX12_121 rfl (by decide) (by decide) rfl ?_
    refine z_iload_n (pc' := 101) dX12_isAhead_100 rfl rfl ?_
    obtain ⟨h1, h⟩ := h
    refine r_iald (pc' := 102) hK rt_56 rfl dX12_isAhead_101 rfl h1 ?_
    refine z_icmp_eq (pt := 126) (pc' := 105) dX12_isAhead_102 (by decide) rfl (fun hc => ?_) (fun hc => ?_)
    · have h := h.1 hc
      refine z_iload_n (pc' := 127) dX12_isAhead_126 rfl rfl ?_
      refine z_iload_n (pc' := 128) dX12_isAhead_127 rfl rfl ?_
      refine z_icmp_ge (pt := 135) (pc' := 131) dX12_isAhead_128 (by decide) rfl (fun hc => ?_) (fun hc => ?_)
      · have h := h.1 hc
        refine z_iconst (x := 0) (pc' := 136) dX12_isAhead_135 (by decide) rfl ?_
        exact z_zret (ty := .boolean) dX12_isAhead_136 rfl (by decide) ⟨_, _, rfl, rfl, h⟩
      · have h := h.2 hc
        refine z_iconst (x := 1) (pc' := 132) dX12_isAhead_131 (by decide) rfl ?_
        refine z_goto (pc' := 136) dX12_isAhead_132 (by decide) ?_
        exact z_zret (ty := .boolean) dX12_isAhead_136 rfl (by decide) ⟨_, _, rfl, rfl, h⟩
    · have h := h.2 hc
      refine z_aload_n (pc' := 106) dX12_isAhead_105 rfl rfl ?_
      refine r_getA (kf := 56) (pc' := 109) hK rt_56 dX12_isAhead_106 kX12_121 rfl (by decide) (by decide) rfl ?_
      refine z_iload_n (pc' := 110) dX12_isAhead_109 rfl rfl ?_
      obtain ⟨h1, h⟩ := h
      refine r_iald (pc' := 111) hK rt_56 rfl dX12_isAhead_110 rfl h1 ?_
      refine z_aload_n (pc' := 112) dX12_isAhead_111 rfl rfl ?_
      refine r_getA (kf := 56) (pc' := 115) hK rt_56 dX12_isAhead_112 kX12_121 rfl (by decide) (by decide) rfl ?_
      refine z_iload_n (pc' := 116) dX12_isAhead_115 rfl rfl ?_
      obtain ⟨h1, h⟩ := h
      refine r_iald (pc' := 117) hK rt_56 rfl dX12_isAhead_116 rfl h1 ?_
      refine z_icmp_ge (pt := 124) (pc' := 120) dX12_isAhead_117 (by decide) rfl (fun hc => ?_) (fun hc => ?_)
      · have h := h.1 hc
        refine z_iconst (x := 0) (pc' := 125) dX12_isAhead_124 (by decide) rfl ?_
        exact z_zret (ty := .boolean) dX12_isAhead_125 rfl (by decide) ⟨_, _, rfl, rfl, h⟩
      · have h := h.2 hc
        refine z_iconst (x := 1) (pc' := 121) dX12_isAhead_120 (by decide) rfl ?_
        refine z_goto (pc' := 125) dX12_isAhead_121 (by decide) ?_
        exact z_zret (ty := .boolean) dX12_isAhead_125 rfl (by decide) ⟨_, _, rfl, rfl, h⟩
