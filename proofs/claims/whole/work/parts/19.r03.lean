/-! what the reference's methods come to, in its numbers -/
def rwp_X12_lines_0 (E : ZE) (l : Launch) (d b : Nat) (A G : ZG) (Q : Option Value → ZS9 → Prop) (k : Nat) (x1 : Int32) (x2 : Int32) (S : ZS9) : Prop :=
  ∀ S1, S1 = zup S 416 78 0 →
  zW E l mX12_lines d b A (rQ G Q) k 7 [some (.ref (zp 416 0)), some (.int x1), some (.int x2), some (.int 0), none] [] (zput G S1)
theorem rwpt_X12_lines_0 {E : ZE} {l : Launch} {d b : Nat} {A G : ZG} {Q : Option Value → ZS9 → Prop} {k : Nat} {x1 : Int32} {x2 : Int32} {S : ZS9} (hK : RK G) (h : rwp_X12_lines_0 E l d b A G Q k x1 x2 S) : zW E l mX12_lines d b A (rQ G Q) k 0 [some (.ref (zp 416 0)), some (.int x1), some (.int x2), none, none] [] (zput G S) := by
  unfold rwp_X12_lines_0 at h
  refine z_aload_n (pc' := 1) dX12_lines_0 rfl rfl ?_
  refine z_iconst (x := 0) (pc' := 2) dX12_lines_1 (by decide) rfl ?_
  obtain ⟨S1, hG⟩ : ∃ z, z = zup S 416 78 0 := ⟨_, rfl⟩
  have h := h _ hG
  refine r_putI (kf := 78) (pc' := 5) hK dX12_lines_2 kX12_447 rfl (by decide) (by decide) rfl rfl (zok_int _) ?_
  refine r_st hG ?_
  refine z_iconst (x := 0) (pc' := 6) dX12_lines_5 (by decide) rfl ?_
  refine z_istore_n (pc' := 7) dX12_lines_6 (by decide) rfl ?_
  exact z_dr (ls' := [some (.ref (zp 416 0)), some (.int x1), some (.int x2), some (.int 0), none]) ⟨rfl, rfl, rfl, rfl, trivial⟩ h
def rwp_X12_lines_7 (E : ZE) (l : Launch) (d b : Nat) (A G : ZG) (Q : Option Value → ZS9 → Prop) (k : Nat) (x1 : Int32) (x2 : Int32) (x3 : Int32) (S : ZS9) : Prop :=
  (((S 416 66) ≤ x3 →
    Q none S) ∧
  (¬ ((S 416 66) ≤ x3) →
    rcI E l mX12_now d [.int x3, .int 0] S k (fun y3 S1 k2 =>
    scI E l mX12_stateAt d [.int x1] (fun y4 =>
    ((y3 = y4 →
      zW E l mX12_lines d b A (rQ G Q) k2 37 [some (.ref (zp 416 0)), some (.int x1), some (.int x2), some (.int x3), some (.int (S1 416 78))] [] (zput G S1)) ∧
    (¬ (y3 = y4) →
      zW E l mX12_lines d b A (rQ G Q) k2 7 [some (.ref (zp 416 0)), some (.int x1), some (.int x2), some (.int (x3 + 1)), none] [] (zput G S1)))))))
theorem rwpt_X12_lines_7 {E : ZE} {l : Launch} {d b : Nat} {A G : ZG} {Q : Option Value → ZS9 → Prop} {k : Nat} {x1 : Int32} {x2 : Int32} {x3 : Int32} {S : ZS9} (hK : RK G) (h : rwp_X12_lines_7 E l d b A G Q k x1 x2 x3 S) : zW E l mX12_lines d b A (rQ G Q) k 7 [some (.ref (zp 416 0)), some (.int x1), some (.int x2), some (.int x3), none] [] (zput G S) := by
  unfold rwp_X12_lines_7 at h
  refine z_iload_n (pc' := 8) dX12_lines_7 rfl rfl ?_
  refine z_aload_n (pc' := 9) dX12_lines_8 rfl rfl ?_
  refine r_getI (kf := 66) (pc' := 12) hK dX12_lines_9 kX12_412 rfl (by decide) (by decide) rfl ?_
  refine z_icmp_ge (pt := 106) (pc' := 15) dX12_lines_12 (by decide) rfl (fun hc => ?_) (fun hc => ?_)
  · have h := h.1 hc
    exact z_vret dX12_lines_106 rfl ⟨_, _, rfl, rfl, h⟩
  · have h := h.2 hc
    refine z_aload_n (pc' := 16) dX12_lines_15 rfl rfl ?_
    refine z_iload_n (pc' := 17) dX12_lines_16 rfl rfl ?_
    refine z_iconst (x := 0) (pc' := 18) dX12_lines_17 (by decide) rfl ?_
    refine r_callI (Y := mX12_now) (n := 2) (as := [.int x3, .int 0]) (st := []) (pc' := 21) h hK dX12_lines_18 kX12_434 vX12_now rfl rfl rfl (Nat.le_of_ble_eq_true rfl) (fun y3 S1 k2 h => ?_)
    refine z_iload_n (pc' := 22) dX12_lines_21 rfl rfl ?_
    refine r_callSI (Y := mX12_stateAt) (n := 1) (as := [.int x1]) (st := [.int y3]) (pc' := 25) h dX12_lines_22 kX12_450 sX12_stateAt rfl rfl (Nat.le_of_ble_eq_true rfl) (fun y4 h => ?_)
    refine z_icmp_eq (pt := 31) (pc' := 28) dX12_lines_25 (by decide) rfl (fun hc => ?_) (fun hc => ?_)
    · have h := h.1 hc
      refine z_aload_n (pc' := 32) dX12_lines_31 rfl rfl ?_
      refine r_getI (kf := 78) (pc' := 35) hK dX12_lines_32 kX12_447 rfl (by decide) (by decide) rfl ?_
      refine z_istore (pc' := 37) dX12_lines_35 (by decide) rfl ?_
      exact z_dr (ls' := [some (.ref (zp 416 0)), some (.int x1), some (.int x2), some (.int x3), some (.int (S1 416 78))]) ⟨rfl, rfl, rfl, rfl, rfl, trivial⟩ h
    · have h := h.2 hc
      refine z_goto (pc' := 100) dX12_lines_28 (by decide) ?_
      refine z_iinc (y := x3 + 1) (pc' := 103) dX12_lines_100 rfl (zinc_1 _) (by decide) rfl ?_
      refine z_goto (pc' := 7) dX12_lines_103 (by decide) ?_
      exact z_dr (ls' := [some (.ref (zp 416 0)), some (.int x1), some (.int x2), some (.int (x3 + 1)), none]) ⟨rfl, rfl, rfl, rfl, trivial⟩ h
def rwp_X12_lines_37 (E : ZE) (l : Launch) (d b : Nat) (A G : ZG) (Q : Option Value → ZS9 → Prop) (k : Nat) (x1 : Int32) (x2 : Int32) (x3 : Int32) (x4 : Int32) (S : ZS9) : Prop :=
  ((x4 ≤ 0 →
    vp_in x4 120 ∧
    ∀ S1, S1 = zup S 1177 x4.toNatClampNeg x3 →
    ∀ S2, S2 = zup S1 416 78 ((S1 416 78) + 1) →
    zW E l mX12_lines d b A (rQ G Q) k 7 [some (.ref (zp 416 0)), some (.int x1), some (.int x2), some (.int (x3 + 1)), none] [] (zput G S2)) ∧
  (¬ (x4 ≤ 0) →
    vp_in (x4 - 1) 120 ∧
    rcI E l mX12_isAhead d [.int x3, .int (S 1177 (x4 - 1).toNatClampNeg), .int x2] S k (fun y5 S3 k4 =>
    ((y5 = 0 →
      vp_in x4 120 ∧
      ∀ S6, S6 = zup S3 1177 x4.toNatClampNeg x3 →
      ∀ S7, S7 = zup S6 416 78 ((S6 416 78) + 1) →
      zW E l mX12_lines d b A (rQ G Q) k4 7 [some (.ref (zp 416 0)), some (.int x1), some (.int x2), some (.int (x3 + 1)), none] [] (zput G S7)) ∧
    (¬ (y5 = 0) →
      vp_in (x4 - 1) 120 ∧
      vp_in x4 120 ∧
      ∀ S8, S8 = zup S3 1177 x4.toNatClampNeg (S3 1177 (x4 - 1).toNatClampNeg) →
      zW E l mX12_lines d b A (rQ G Q) k4 37 [some (.ref (zp 416 0)), some (.int x1), some (.int x2), some (.int x3), some (.int (x4 + (-1)))] [] (zput G S8))))))
theorem rwpt_X12_lines_37 {E : ZE} {l : Launch} {d b : Nat} {A G : ZG} {Q : Option Value → ZS9 → Prop} {k : Nat} {x1 : Int32} {x2 : Int32} {x3 : Int32} {x4 : Int32} {S : ZS9} (hK : RK G) (h : rwp_X12_lines_37 E l d b A G Q k x1 x2 x3 x4 S) : zW E l mX12_lines d b A (rQ G Q) k 37 [some (.ref (zp 416 0)), some (.int x1), some (.int x2), some (.int x3), some (.int x4)] [] (zput G S) := by
  unfold rwp_X12_lines_37 at h
  refine z_iload (pc' := 39) dX12_lines_37 rfl rfl ?_
  refine z_if_le (pt := 82) (pc' := 42) dX12_lines_39 (by decide) rfl (fun hc => ?_) (fun hc => ?_)
  · have h := h.1 hc
    refine z_aload_n (pc' := 83) dX12_lines_82 rfl rfl ?_
    refine r_getA (kf := 77) (pc' := 86) hK rt_77 dX12_lines_83 kX12_163 rfl (by decide) (by decide) rfl ?_
    refine z_iload (pc' := 88) dX12_lines_86 rfl rfl ?_
    refine z_iload_n (pc' := 89) dX12_lines_88 rfl rfl ?_
    obtain ⟨h1, h⟩ := h
    obtain ⟨S1, hG⟩ : ∃ z, z = zup S 1177 x4.toNatClampNeg x3 := ⟨_, rfl⟩
    have h := h _ hG
    refine r_iast (pc' := 90) hK rt_77 rfl dX12_lines_89 rfl h1  ?_
    refine r_st hG ?_
    refine z_aload_n (pc' := 91) dX12_lines_90 rfl rfl ?_
    refine z_dup (pc' := 92) dX12_lines_91 rfl rfl ?_
    refine r_getI (kf := 78) (pc' := 95) hK dX12_lines_92 kX12_447 rfl (by decide) (by decide) rfl ?_
    refine z_iconst (x := 1) (pc' := 96) dX12_lines_95 (by decide) rfl ?_
    refine z_iadd (pc' := 97) dX12_lines_96 rfl rfl ?_
    obtain ⟨S2, hG⟩ : ∃ z, z = zup S1 416 78 ((S1 416 78) + 1) := ⟨_, rfl⟩
    have h := h _ hG
    refine r_putI (kf := 78) (pc' := 100) hK dX12_lines_97 kX12_447 rfl (by decide) (by decide) rfl rfl (zok_int _) ?_
    refine r_st hG ?_
    refine z_iinc (y := x3 + 1) (pc' := 103) dX12_lines_100 rfl (zinc_1 _) (by decide) rfl ?_
    refine z_goto (pc' := 7) dX12_lines_103 (by decide) ?_
    exact z_dr (ls' := [some (.ref (zp 416 0)), some (.int x1), some (.int x2), some (.int (x3 + 1)), none]) ⟨rfl, rfl, rfl, rfl, trivial⟩ h
  · have h := h.2 hc
    refine z_aload_n (pc' := 43) dX12_lines_42 rfl rfl ?_
    refine z_iload_n (pc' := 44) dX12_lines_43 rfl rfl ?_
    refine z_aload_n (pc' := 45) dX12_lines_44 rfl rfl ?_
    refine r_getA (kf := 77) (pc' := 48) hK rt_77 dX12_lines_45 kX12_163 rfl (by decide) (by decide) rfl ?_
    refine z_iload (pc' := 50) dX12_lines_48 rfl rfl ?_
    refine z_iconst (x := 1) (pc' := 51) dX12_lines_50 (by decide) rfl ?_
    refine z_isub (pc' := 52) dX12_lines_51 rfl rfl ?_
    obtain ⟨h1, h⟩ := h
    refine r_iald (pc' := 53) hK rt_77 rfl dX12_lines_52 rfl h1 ?_
    refine z_iload_n (pc' := 54) dX12_lines_53 rfl rfl ?_
    refine r_callI (Y := mX12_isAhead) (n := 3) (as := [.int x3, .int (S 1177 (x4 - 1).toNatClampNeg), .int x2]) (st := []) (pc' := 57) h hK dX12_lines_54 kX12_453 vX12_isAhead rfl rfl rfl (Nat.le_of_ble_eq_true rfl) (fun y5 S3 k4 h => ?_)
    refine z_if_eq (pt := 82) (pc' := 60) dX12_lines_57 (by decide) rfl (fun hc => ?_) (fun hc => ?_)
    · have h := h.1 hc
      refine z_aload_n (pc' := 83) dX12_lines_82 rfl rfl ?_
      refine r_getA (kf := 77) (pc' := 86) hK rt_77 dX12_lines_83 kX12_163 rfl (by decide) (by decide) rfl ?_
      refine z_iload (pc' := 88) dX12_lines_86 rfl rfl ?_
      refine z_iload_n (pc' := 89) dX12_lines_88 rfl rfl ?_
      obtain ⟨h1, h⟩ := h
      obtain ⟨S6, hG⟩ : ∃ z, z = zup S3 1177 x4.toNatClampNeg x3 := ⟨_, rfl⟩
      have h := h _ hG
      refine r_iast (pc' := 90) hK rt_77 rfl dX12_lines_89 rfl h1  ?_
      refine r_st hG ?_
      refine z_aload_n (pc' := 91) dX12_lines_90 rfl rfl ?_
      refine z_dup (pc' := 92) dX12_lines_91 rfl rfl ?_
      refine r_getI (kf := 78) (pc' := 95) hK dX12_lines_92 kX12_447 rfl (by decide) (by decide) rfl ?_
      refine z_iconst (x := 1) (pc' := 96) dX12_lines_95 (by decide) rfl ?_
      refine z_iadd (pc' := 97) dX12_lines_96 rfl rfl ?_
      obtain ⟨S7, hG⟩ : ∃ z, z = zup S6 416 78 ((S6 416 78) + 1) := ⟨_, rfl⟩
      have h := h _ hG
      refine r_putI (kf := 78) (pc' := 100) hK dX12_lines_97 kX12_447 rfl (by decide) (by decide) rfl rfl (zok_int _) ?_
      refine r_st hG ?_
      refine z_iinc (y := x3 + 1) (pc' := 103) dX12_lines_100 rfl (zinc_1 _) (by decide) rfl ?_
      refine z_goto (pc' := 7) dX12_lines_103 (by decide) ?_
      exact z_dr (ls' := [some (.ref (zp 416 0)), some (.int x1), some (.int x2), some (.int (x3 + 1)), none]) ⟨rfl, rfl, rfl, rfl, trivial⟩ h
    · have h := h.2 hc
      refine z_aload_n (pc' := 61) dX12_lines_60 rfl rfl ?_
      refine r_getA (kf := 77) (pc' := 64) hK rt_77 dX12_lines_61 kX12_163 rfl (by decide) (by decide) rfl ?_
      refine z_iload (pc' := 66) dX12_lines_64 rfl rfl ?_
      refine z_aload_n (pc' := 67) dX12_lines_66 rfl rfl ?_
      refine r_getA (kf := 77) (pc' := 70) hK rt_77 dX12_lines_67 kX12_163 rfl (by decide) (by decide) rfl ?_
      refine z_iload (pc' := 72) dX12_lines_70 rfl rfl ?_
      refine z_iconst (x := 1) (pc' := 73) dX12_lines_72 (by decide) rfl ?_
      refine z_isub (pc' := 74) dX12_lines_73 rfl rfl ?_
      obtain ⟨h1, h⟩ := h
      refine r_iald (pc' := 75) hK rt_77 rfl dX12_lines_74 rfl h1 ?_
      obtain ⟨h1, h⟩ := h
      obtain ⟨S8, hG⟩ : ∃ z, z = zup S3 1177 x4.toNatClampNeg (S3 1177 (x4 - 1).toNatClampNeg) := ⟨_, rfl⟩
      have h := h _ hG
      refine r_iast (pc' := 76) hK rt_77 rfl dX12_lines_75 rfl h1  ?_
      refine r_st hG ?_
      refine z_iinc (y := x4 + (-1)) (pc' := 79) dX12_lines_76 rfl (zinc_m1 _) (by decide) rfl ?_
      refine z_goto (pc' := 37) dX12_lines_79 (by decide) ?_
      exact z_dr (ls' := [some (.ref (zp 416 0)), some (.int x1), some (.int x2), some (.int x3), some (.int (x4 + (-1)))]) ⟨rfl, rfl, rfl, rfl, rfl, trivial⟩ h
def rwp_X12_lose_0 (E : ZE) (l : Launch) (d b : Nat) (A G : ZG) (Q : Option Value → ZS9 → Prop) (k : Nat) (x1 : Int32) (S : ZS9) : Prop :=
  ∀ S1, S1 = zup S 416 0 0 →
  rcI E l mX12_noAsking d [.int x1] S1 k (fun y4 S2 k3 =>
  rcI E l mX12_throwsIf d [.int y4, .int 1] S2 k3 (fun y7 S5 k6 =>
  ((¬ y7 = 0 →
    Q none S5) ∧
  (¬ (¬ y7 = 0) →
    rcI E l mX12_now d [.int x1, .int 0] S5 k6 (fun y10 S8 k9 =>
    ((y10 = 6 →
      zW E l mX12_lose d b A (rQ G Q) k9 35 [some (.ref (zp 416 0)), some (.int x1), none] [.int 0, .ref (zp 416 0)] (zput G S8)) ∧
    (¬ (y10 = 6) →
      zW E l mX12_lose d b A (rQ G Q) k9 35 [some (.ref (zp 416 0)), some (.int x1), none] [.int 1, .ref (zp 416 0)] (zput G S8))))))))
theorem rwpt_X12_lose_0 {E : ZE} {l : Launch} {d b : Nat} {A G : ZG} {Q : Option Value → ZS9 → Prop} {k : Nat} {x1 : Int32} {S : ZS9} (hK : RK G) (h : rwp_X12_lose_0 E l d b A G Q k x1 S) : zW E l mX12_lose d b A (rQ G Q) k 0 [some (.ref (zp 416 0)), some (.int x1), none] [] (zput G S) := by
  unfold rwp_X12_lose_0 at h
  refine z_aload_n (pc' := 1) dX12_lose_0 rfl rfl ?_
  refine z_iconst (x := 0) (pc' := 2) dX12_lose_1 (by decide) rfl ?_
  obtain ⟨S1, hG⟩ : ∃ z, z = zup S 416 0 0 := ⟨_, rfl⟩
  have h := h _ hG
  refine r_putI (kf := 0) (pc' := 5) hK dX12_lose_2 kX12_178 rfl (by decide) (by decide) rfl rfl (zok_int _) ?_
  refine r_st hG ?_
  refine z_aload_n (pc' := 6) dX12_lose_5 rfl rfl ?_
  refine z_aload_n (pc' := 7) dX12_lose_6 rfl rfl ?_
  refine z_iload_n (pc' := 8) dX12_lose_7 rfl rfl ?_
  refine r_callI (Y := mX12_noAsking) (n := 1) (as := [.int x1]) (st := [.ref (zp 416 0)]) (pc' := 11) h hK dX12_lose_8 kX12_431 vX12_noAsking rfl rfl rfl (Nat.le_of_ble_eq_true rfl) (fun y4 S2 k3 h => ?_)
  refine z_iconst (x := 1) (pc' := 12) dX12_lose_11 (by decide) rfl ?_
  refine r_callI (Y := mX12_throwsIf) (n := 2) (as := [.int y4, .int 1]) (st := []) (pc' := 15) h hK dX12_lose_12 kX12_321 vX12_throwsIf rfl rfl rfl (Nat.le_of_ble_eq_true rfl) (fun y7 S5 k6 h => ?_)
  refine z_if_ne (pt := 42) (pc' := 18) dX12_lose_15 (by decide) rfl (fun hc => ?_) (fun hc => ?_)
  · have h := h.1 hc
    exact z_vret dX12_lose_42 rfl ⟨_, _, rfl, rfl, h⟩
  · have h := h.2 hc
    refine z_aload_n (pc' := 19) dX12_lose_18 rfl rfl ?_
    refine z_aload_n (pc' := 20) dX12_lose_19 rfl rfl ?_
    refine z_iload_n (pc' := 21) dX12_lose_20 rfl rfl ?_
    refine z_iconst (x := 0) (pc' := 22) dX12_lose_21 (by decide) rfl ?_
    refine r_callI (Y := mX12_now) (n := 2) (as := [.int x1, .int 0]) (st := [.ref (zp 416 0)]) (pc' := 25) h hK dX12_lose_22 kX12_434 vX12_now rfl rfl rfl (Nat.le_of_ble_eq_true rfl) (fun y10 S8 k9 h => ?_)
    refine z_bipush (x := 6) (pc' := 27) dX12_lose_25 (by decide) rfl ?_
    refine z_icmp_eq (pt := 34) (pc' := 30) dX12_lose_27 (by decide) rfl (fun hc => ?_) (fun hc => ?_)
    · have h := h.1 hc
      refine z_iconst (x := 0) (pc' := 35) dX12_lose_34 (by decide) rfl ?_
      exact z_dr (ls' := [some (.ref (zp 416 0)), some (.int x1), none]) ⟨rfl, rfl, trivial⟩ h
    · have h := h.2 hc
      refine z_iconst (x := 1) (pc' := 31) dX12_lose_30 (by decide) rfl ?_
      refine z_goto (pc' := 35) dX12_lose_31 (by decide) ?_
      exact z_dr (ls' := [some (.ref (zp 416 0)), some (.int x1), none]) ⟨rfl, rfl, trivial⟩ h
def rwp_X12_lose_35 (E : ZE) (l : Launch) (d b : Nat) (A G : ZG) (Q : Option Value → ZS9 → Prop) (k : Nat) (x1 : Int32) (s0 : Int32) (S : ZS9) : Prop :=
  rcI E l mX12_throwsIf d [.int s0, .int 2] S k (fun y3 S1 k2 =>
  ((y3 = 0 →
    rcV E l mX12_sets d [.int x1, .int 0, .int 8] S1 k2 (fun S4 k5 =>
    rcI E l mX12_now d [.int x1, .int 1] S4 k5 (fun y8 S6 k7 =>
    vp_in y8 150 ∧
    scI E l mJ9_min_7cf53 d [.int (S6 1169 y8.toNatClampNeg), .int (S6 416 1)] (fun y9 =>
    vp_in y8 150 ∧
    ∀ S10, S10 = zup S6 1169 y8.toNatClampNeg y9 →
    Q none S10)))) ∧
  (¬ (y3 = 0) →
    Q none S1)))
theorem rwpt_X12_lose_35 {E : ZE} {l : Launch} {d b : Nat} {A G : ZG} {Q : Option Value → ZS9 → Prop} {k : Nat} {x1 : Int32} {s0 : Int32} {S : ZS9} (hK : RK G) (h : rwp_X12_lose_35 E l d b A G Q k x1 s0 S) : zW E l mX12_lose d b A (rQ G Q) k 35 [some (.ref (zp 416 0)), some (.int x1), none] [.int s0, .ref (zp 416 0)] (zput G S) := by
  unfold rwp_X12_lose_35 at h
  refine z_iconst (x := 2) (pc' := 36) dX12_lose_35 (by decide) rfl ?_
  refine r_callI (Y := mX12_throwsIf) (n := 2) (as := [.int s0, .int 2]) (st := []) (pc' := 39) h hK dX12_lose_36 kX12_321 vX12_throwsIf rfl rfl rfl (Nat.le_of_ble_eq_true rfl) (fun y3 S1 k2 h => ?_)
  refine z_if_eq (pt := 43) (pc' := 42) dX12_lose_39 (by decide) rfl (fun hc => ?_) (fun hc => ?_)
  · have h := h.1 hc
    refine z_aload_n (pc' := 44) dX12_lose_43 rfl rfl ?_
    refine z_iload_n (pc' := 45) dX12_lose_44 rfl rfl ?_
    refine z_iconst (x := 0) (pc' := 46) dX12_lose_45 (by decide) rfl ?_
    refine z_bipush (x := 8) (pc' := 48) dX12_lose_46 (by decide) rfl ?_
    refine r_callV (Y := mX12_sets) (n := 3) (as := [.int x1, .int 0, .int 8]) (st := []) (pc' := 51) h hK dX12_lose_48 kX12_425 vX12_sets rfl rfl rfl (Nat.le_of_ble_eq_true rfl) (fun S4 k5 h => ?_)
    refine z_aload_n (pc' := 52) dX12_lose_51 rfl rfl ?_
    refine z_iload_n (pc' := 53) dX12_lose_52 rfl rfl ?_
    refine z_iconst (x := 1) (pc' := 54) dX12_lose_53 (by decide) rfl ?_
    refine r_callI (Y := mX12_now) (n := 2) (as := [.int x1, .int 1]) (st := []) (pc' := 57) h hK dX12_lose_54 kX12_434 vX12_now rfl rfl rfl (Nat.le_of_ble_eq_true rfl) (fun y8 S6 k7 h => ?_)
    refine z_istore_n (pc' := 58) dX12_lose_57 (by decide) rfl ?_
    refine z_aload_n (pc' := 59) dX12_lose_58 rfl rfl ?_
    refine r_getA (kf := 69) (pc' := 62) hK rt_69 dX12_lose_59 kX12_157 rfl (by decide) (by decide) rfl ?_
    refine z_iload_n (pc' := 63) dX12_lose_62 rfl rfl ?_
    refine z_aload_n (pc' := 64) dX12_lose_63 rfl rfl ?_
    refine r_getA (kf := 69) (pc' := 67) hK rt_69 dX12_lose_64 kX12_157 rfl (by decide) (by decide) rfl ?_
    refine z_iload_n (pc' := 68) dX12_lose_67 rfl rfl ?_
    obtain ⟨h1, h⟩ := h
    refine r_iald (pc' := 69) hK rt_69 rfl dX12_lose_68 rfl h1 ?_
    refine z_aload_n (pc' := 70) dX12_lose_69 rfl rfl ?_
    refine r_getI (kf := 1) (pc' := 73) hK dX12_lose_70 kX12_314 rfl (by decide) (by decide) rfl ?_
    refine r_callSI (Y := mJ9_min_7cf53) (n := 2) (as := [.int (S6 1169 y8.toNatClampNeg), .int (S6 416 1)]) (st := [.int y8, .ref (zp 1169 0)]) (pc' := 76) h dX12_lose_73 kX12_369 sJ9_min_7cf53 rfl rfl (Nat.le_of_ble_eq_true rfl) (fun y9 h => ?_)
    obtain ⟨h1, h⟩ := h
    obtain ⟨S10, hG⟩ : ∃ z, z = zup S6 1169 y8.toNatClampNeg y9 := ⟨_, rfl⟩
    have h := h _ hG
    refine r_iast (pc' := 77) hK rt_69 rfl dX12_lose_76 rfl h1  ?_
    refine r_st hG ?_
    exact z_vret dX12_lose_77 rfl ⟨_, _, rfl, rfl, h⟩
  · have h := h.2 hc
    exact z_vret dX12_lose_42 rfl ⟨_, _, rfl, rfl, h⟩
def rwp_X12_missed_0 (E : ZE) (l : Launch) (d b : Nat) (A G : ZG) (Q : Option Value → ZS9 → Prop) (k : Nat) (x1 : Int32) (x2 : Int32) (S : ZS9) : Prop :=
  ∀ S1, S1 = zup S 416 0 0 →
  scI E l mX12_in d [.int x1, .int 0, .int 2] (fun y2 =>
  ((y2 = 0 →
    rcI E l mX12_throwsIf d [.int 1, .int 1] S1 k (fun y5 S3 k4 =>
    ((y5 = 0 →
      zW E l mX12_missed d b A (rQ G Q) k4 41 [some (.ref (zp 416 0)), some (.int x1), some (.int x2), some (.int 0), none, none, none, none, none, none, none, none] [] (zput G S3)) ∧
    (¬ (y5 = 0) →
      Q (some (.int 0)) S3)))) ∧
  (¬ (y2 = 0) →
    scI E l mX12_in d [.int x2, .int 0, .int 60] (fun y6 =>
    ((¬ y6 = 0 →
      rcI E l mX12_throwsIf d [.int 0, .int 1] S1 k (fun y9 S7 k8 =>
      ((y9 = 0 →
        zW E l mX12_missed d b A (rQ G Q) k8 41 [some (.ref (zp 416 0)), some (.int x1), some (.int x2), some (.int 0), none, none, none, none, none, none, none, none] [] (zput G S7)) ∧
      (¬ (y9 = 0) →
        Q (some (.int 0)) S7)))) ∧
    (¬ (¬ y6 = 0) →
      rcI E l mX12_throwsIf d [.int 1, .int 1] S1 k (fun y12 S10 k11 =>
      ((y12 = 0 →
        zW E l mX12_missed d b A (rQ G Q) k11 41 [some (.ref (zp 416 0)), some (.int x1), some (.int x2), some (.int 0), none, none, none, none, none, none, none, none] [] (zput G S10)) ∧
      (¬ (y12 = 0) →
        Q (some (.int 0)) S10)))))))))
theorem rwpt_X12_missed_0 {E : ZE} {l : Launch} {d b : Nat} {A G : ZG} {Q : Option Value → ZS9 → Prop} {k : Nat} {x1 : Int32} {x2 : Int32} {S : ZS9} (hK : RK G) (h : rwp_X12_missed_0 E l d b A G Q k x1 x2 S) : zW E l mX12_missed d b A (rQ G Q) k 0 [some (.ref (zp 416 0)), some (.int x1), some (.int x2), none, none, none, none, none, none, none, none, none] [] (zput G S) := by
  unfold rwp_X12_missed_0 at h
  refine z_aload_n (pc' := 1) dX12_missed_0 rfl rfl ?_
  refine z_iconst (x := 0) (pc' := 2) dX12_missed_1 (by decide) rfl ?_
  obtain ⟨S1, hG⟩ : ∃ z, z = zup S 416 0 0 := ⟨_, rfl⟩
  have h := h _ hG
  refine r_putI (kf := 0) (pc' := 5) hK dX12_missed_2 kX12_178 rfl (by decide) (by decide) rfl rfl (zok_int _) ?_
  refine r_st hG ?_
  refine z_aload_n (pc' := 6) dX12_missed_5 rfl rfl ?_
  refine z_iload_n (pc' := 7) dX12_missed_6 rfl rfl ?_
  refine z_iconst (x := 0) (pc' := 8) dX12_missed_7 (by decide) rfl ?_
  refine z_iconst (x := 2) (pc' := 9) dX12_missed_8 (by decide) rfl ?_
  refine r_callSI (Y := mX12_in) (n := 3) (as := [.int x1, .int 0, .int 2]) (st := [.ref (zp 416 0)]) (pc' := 12) h dX12_missed_9 kX12_317 sX12_in rfl rfl (Nat.le_of_ble_eq_true rfl) (fun y2 h => ?_)
  refine z_if_eq (pt := 25) (pc' := 15) dX12_missed_12 (by decide) rfl (fun hc => ?_) (fun hc => ?_)
  · have h := h.1 hc
    refine z_iconst (x := 1) (pc' := 26) dX12_missed_25 (by decide) rfl ?_
    refine z_goto (pc' := 30) dX12_missed_26 (by decide) ?_
    refine z_iconst (x := 1) (pc' := 31) dX12_missed_30 (by decide) rfl ?_
    refine r_callI (Y := mX12_throwsIf) (n := 2) (as := [.int 1, .int 1]) (st := []) (pc' := 34) h hK dX12_missed_31 kX12_321 vX12_throwsIf rfl rfl rfl (Nat.le_of_ble_eq_true rfl) (fun y5 S3 k4 h => ?_)
    refine z_if_eq (pt := 39) (pc' := 37) dX12_missed_34 (by decide) rfl (fun hc => ?_) (fun hc => ?_)
    · have h := h.1 hc
      refine z_iconst (x := 0) (pc' := 40) dX12_missed_39 (by decide) rfl ?_
      refine z_istore_n (pc' := 41) dX12_missed_40 (by decide) rfl ?_
      exact z_dr (ls' := [some (.ref (zp 416 0)), some (.int x1), some (.int x2), some (.int 0), none, none, none, none, none, none, none, none]) ⟨rfl, rfl, rfl, rfl, trivial⟩ h
    · have h := h.2 hc
      refine z_iconst (x := 0) (pc' := 38) dX12_missed_37 (by decide) rfl ?_
      exact z_iret dX12_missed_38 rfl ⟨_, _, rfl, rfl, h⟩
  · have h := h.2 hc
    refine z_iload_n (pc' := 16) dX12_missed_15 rfl rfl ?_
    refine z_iconst (x := 0) (pc' := 17) dX12_missed_16 (by decide) rfl ?_
    refine z_bipush (x := 60) (pc' := 19) dX12_missed_17 (by decide) rfl ?_
    refine r_callSI (Y := mX12_in) (n := 3) (as := [.int x2, .int 0, .int 60]) (st := [.ref (zp 416 0)]) (pc' := 22) h dX12_missed_19 kX12_317 sX12_in rfl rfl (Nat.le_of_ble_eq_true rfl) (fun y6 h => ?_)
    refine z_if_ne (pt := 29) (pc' := 25) dX12_missed_22 (by decide) rfl (fun hc => ?_) (fun hc => ?_)
    · have h := h.1 hc
      refine z_iconst (x := 0) (pc' := 30) dX12_missed_29 (by decide) rfl ?_
      refine z_iconst (x := 1) (pc' := 31) dX12_missed_30 (by decide) rfl ?_
      refine r_callI (Y := mX12_throwsIf) (n := 2) (as := [.int 0, .int 1]) (st := []) (pc' := 34) h hK dX12_missed_31 kX12_321 vX12_throwsIf rfl rfl rfl (Nat.le_of_ble_eq_true rfl) (fun y9 S7 k8 h => ?_)
      refine z_if_eq (pt := 39) (pc' := 37) dX12_missed_34 (by decide) rfl (fun hc => ?_) (fun hc => ?_)
      · have h := h.1 hc
        refine z_iconst (x := 0) (pc' := 40) dX12_missed_39 (by decide) rfl ?_
        refine z_istore_n (pc' := 41) dX12_missed_40 (by decide) rfl ?_
        exact z_dr (ls' := [some (.ref (zp 416 0)), some (.int x1), some (.int x2), some (.int 0), none, none, none, none, none, none, none, none]) ⟨rfl, rfl, rfl, rfl, trivial⟩ h
      · have h := h.2 hc
        refine z_iconst (x := 0) (pc' := 38) dX12_missed_37 (by decide) rfl ?_
        exact z_iret dX12_missed_38 rfl ⟨_, _, rfl, rfl, h⟩
    · have h := h.2 hc
      refine z_iconst (x := 1) (pc' := 26) dX12_missed_25 (by decide) rfl ?_
      refine z_goto (pc' := 30) dX12_missed_26 (by decide) ?_
      refine z_iconst (x := 1) (pc' := 31) dX12_missed_30 (by decide) rfl ?_
      refine r_callI (Y := mX12_throwsIf) (n := 2) (as := [.int 1, .int 1]) (st := []) (pc' := 34) h hK dX12_missed_31 kX12_321 vX12_throwsIf rfl rfl rfl (Nat.le_of_ble_eq_true rfl) (fun y12 S10 k11 h => ?_)
      refine z_if_eq (pt := 39) (pc' := 37) dX12_missed_34 (by decide) rfl (fun hc => ?_) (fun hc => ?_)
      · have h := h.1 hc
        refine z_iconst (x := 0) (pc' := 40) dX12_missed_39 (by decide) rfl ?_
        refine z_istore_n (pc' := 41) dX12_missed_40 (by decide) rfl ?_
        exact z_dr (ls' := [some (.ref (zp 416 0)), some (.int x1), some (.int x2), some (.int 0), none, none, none, none, none, none, none, none]) ⟨rfl, rfl, rfl, rfl, trivial⟩ h
      · have h := h.2 hc
        refine z_iconst (x := 0) (pc' := 38) dX12_missed_37 (by decide) rfl ?_
        exact z_iret dX12_missed_38 rfl ⟨_, _, rfl, rfl, h⟩
def rwp_X12_missed_41 (E : ZE) (l : Launch) (d b : Nat) (A G : ZG) (Q : Option Value → ZS9 → Prop) (k : Nat) (x1 : Int32) (x2 : Int32) (x3 : Int32) (S : ZS9) : Prop :=
  (((7 * (S 416 66)) ≤ x3 →
    zW E l mX12_missed d b A (rQ G Q) k 72 [some (.ref (zp 416 0)), some (.int x1), some (.int x2), some (.int 0), none, none, none, none, none, none, none, none] [] (zput G S)) ∧
  (¬ ((7 * (S 416 66)) ≤ x3) →
    vp_in x3 840 ∧
    vp_in x3 840 ∧
    ∀ S1, S1 = zup S 1179 x3.toNatClampNeg (S 1165 x3.toNatClampNeg) →
    zW E l mX12_missed d b A (rQ G Q) k 41 [some (.ref (zp 416 0)), some (.int x1), some (.int x2), some (.int (x3 + 1)), none, none, none, none, none, none, none, none] [] (zput G S1)))
theorem rwpt_X12_missed_41 {E : ZE} {l : Launch} {d b : Nat} {A G : ZG} {Q : Option Value → ZS9 → Prop} {k : Nat} {x1 : Int32} {x2 : Int32} {x3 : Int32} {S : ZS9} (hK : RK G) (h : rwp_X12_missed_41 E l d b A G Q k x1 x2 x3 S) : zW E l mX12_missed d b A (rQ G Q) k 41 [some (.ref (zp 416 0)), some (.int x1), some (.int x2), some (.int x3), none, none, none, none, none, none, none, none] [] (zput G S) := by
  unfold rwp_X12_missed_41 at h
  refine z_iload_n (pc' := 42) dX12_missed_41 rfl rfl ?_
  refine z_bipush (x := 7) (pc' := 44) dX12_missed_42 (by decide) rfl ?_
  refine z_aload_n (pc' := 45) dX12_missed_44 rfl rfl ?_
  refine r_getI (kf := 66) (pc' := 48) hK dX12_missed_45 kX12_412 rfl (by decide) (by decide) rfl ?_
  refine z_imul (pc' := 49) dX12_missed_48 rfl rfl ?_
  refine z_icmp_ge (pt := 70) (pc' := 52) dX12_missed_49 (by decide) rfl (fun hc => ?_) (fun hc => ?_)
  · have h := h.1 hc
    refine z_iconst (x := 0) (pc' := 71) dX12_missed_70 (by decide) rfl ?_
    refine z_istore_n (pc' := 72) dX12_missed_71 (by decide) rfl ?_
    exact z_dr (ls' := [some (.ref (zp 416 0)), some (.int x1), some (.int x2), some (.int 0), none, none, none, none, none, none, none, none]) ⟨rfl, rfl, rfl, rfl, trivial⟩ h
  · have h := h.2 hc
    refine z_aload_n (pc' := 53) dX12_missed_52 rfl rfl ?_
    refine r_getA (kf := 79) (pc' := 56) hK rt_79 dX12_missed_53 kX12_166 rfl (by decide) (by decide) rfl ?_
    refine z_iload_n (pc' := 57) dX12_missed_56 rfl rfl ?_
    refine z_aload_n (pc' := 58) dX12_missed_57 rfl rfl ?_
    refine r_getA (kf := 65) (pc' := 61) hK rt_65 dX12_missed_58 kX12_148 rfl (by decide) (by decide) rfl ?_
    refine z_iload_n (pc' := 62) dX12_missed_61 rfl rfl ?_
    obtain ⟨h1, h⟩ := h
    refine r_iald (pc' := 63) hK rt_65 rfl dX12_missed_62 rfl h1 ?_
    obtain ⟨h1, h⟩ := h
    obtain ⟨S1, hG⟩ : ∃ z, z = zup S 1179 x3.toNatClampNeg (S 1165 x3.toNatClampNeg) := ⟨_, rfl⟩
    have h := h _ hG
    refine r_iast (pc' := 64) hK rt_79 rfl dX12_missed_63 rfl h1  ?_
    refine r_st hG ?_
    refine z_iinc (y := x3 + 1) (pc' := 67) dX12_missed_64 rfl (zinc_1 _) (by decide) rfl ?_
    refine z_goto (pc' := 41) dX12_missed_67 (by decide) ?_
    exact z_dr (ls' := [some (.ref (zp 416 0)), some (.int x1), some (.int x2), some (.int (x3 + 1)), none, none, none, none, none, none, none, none]) ⟨rfl, rfl, rfl, rfl, trivial⟩ h
def rwp_X12_missed_72 (E : ZE) (l : Launch) (d b : Nat) (A G : ZG) (Q : Option Value → ZS9 → Prop) (k : Nat) (x1 : Int32) (x2 : Int32) (x3 : Int32) (S : ZS9) : Prop :=
  (((S 416 71) ≤ x3 →
    zW E l mX12_missed d b A (rQ G Q) k 142 [some (.ref (zp 416 0)), some (.int x1), some (.int x2), some (.int (S 416 1)), some (.int (S 416 71)), some (.int (S 416 43)), some (.int (S 416 73)), some (.int (S 416 74)), some (.int (S 416 75)), some (.int (S 416 76)), some (.int 0), none] [] (zput G S)) ∧
  (¬ ((S 416 71) ≤ x3) →
    vp_in x3 150 ∧
    vp_in x3 150 ∧
    ∀ S1, S1 = zup S 1180 x3.toNatClampNeg (S 1169 x3.toNatClampNeg) →
    zW E l mX12_missed d b A (rQ G Q) k 72 [some (.ref (zp 416 0)), some (.int x1), some (.int x2), some (.int (x3 + 1)), none, none, none, none, none, none, none, none] [] (zput G S1)))
theorem rwpt_X12_missed_72 {E : ZE} {l : Launch} {d b : Nat} {A G : ZG} {Q : Option Value → ZS9 → Prop} {k : Nat} {x1 : Int32} {x2 : Int32} {x3 : Int32} {S : ZS9} (hK : RK G) (h : rwp_X12_missed_72 E l d b A G Q k x1 x2 x3 S) : zW E l mX12_missed d b A (rQ G Q) k 72 [some (.ref (zp 416 0)), some (.int x1), some (.int x2), some (.int x3), none, none, none, none, none, none, none, none] [] (zput G S) := by
  unfold rwp_X12_missed_72 at h
  refine z_iload_n (pc' := 73) dX12_missed_72 rfl rfl ?_
  refine z_aload_n (pc' := 74) dX12_missed_73 rfl rfl ?_
  refine r_getI (kf := 71) (pc' := 77) hK dX12_missed_74 kX12_415 rfl (by decide) (by decide) rfl ?_
  refine z_icmp_ge (pt := 98) (pc' := 80) dX12_missed_77 (by decide) rfl (fun hc => ?_) (fun hc => ?_)
  · have h := h.1 hc
    refine z_aload_n (pc' := 99) dX12_missed_98 rfl rfl ?_
    refine r_getI (kf := 1) (pc' := 102) hK dX12_missed_99 kX12_314 rfl (by decide) (by decide) rfl ?_
    refine z_istore_n (pc' := 103) dX12_missed_102 (by decide) rfl ?_
    refine z_aload_n (pc' := 104) dX12_missed_103 rfl rfl ?_
    refine r_getI (kf := 71) (pc' := 107) hK dX12_missed_104 kX12_415 rfl (by decide) (by decide) rfl ?_
    refine z_istore (pc' := 109) dX12_missed_107 (by decide) rfl ?_
    refine z_aload_n (pc' := 110) dX12_missed_109 rfl rfl ?_
    refine r_getI (kf := 43) (pc' := 113) hK dX12_missed_110 kX12_406 rfl (by decide) (by decide) rfl ?_
    refine z_istore (pc' := 115) dX12_missed_113 (by decide) rfl ?_
    refine z_aload_n (pc' := 116) dX12_missed_115 rfl rfl ?_
    refine r_getI (kf := 73) (pc' := 119) hK dX12_missed_116 kX12_456 rfl (by decide) (by decide) rfl ?_
    refine z_istore (pc' := 121) dX12_missed_119 (by decide) rfl ?_
    refine z_aload_n (pc' := 122) dX12_missed_121 rfl rfl ?_
    refine r_getI (kf := 74) (pc' := 125) hK dX12_missed_122 kX12_465 rfl (by decide) (by decide) rfl ?_
    refine z_istore (pc' := 127) dX12_missed_125 (by decide) rfl ?_
    refine z_aload_n (pc' := 128) dX12_missed_127 rfl rfl ?_
    refine r_getI (kf := 75) (pc' := 131) hK dX12_missed_128 kX12_484 rfl (by decide) (by decide) rfl ?_
    refine z_istore (pc' := 133) dX12_missed_131 (by decide) rfl ?_
    refine z_aload_n (pc' := 134) dX12_missed_133 rfl rfl ?_
    refine r_getI (kf := 76) (pc' := 137) hK dX12_missed_134 kX12_481 rfl (by decide) (by decide) rfl ?_
    refine z_istore (pc' := 139) dX12_missed_137 (by decide) rfl ?_
    refine z_iconst (x := 0) (pc' := 140) dX12_missed_139 (by decide) rfl ?_
    refine z_istore (pc' := 142) dX12_missed_140 (by decide) rfl ?_
    exact z_dr (ls' := [some (.ref (zp 416 0)), some (.int x1), some (.int x2), some (.int (S 416 1)), some (.int (S 416 71)), some (.int (S 416 43)), some (.int (S 416 73)), some (.int (S 416 74)), some (.int (S 416 75)), some (.int (S 416 76)), some (.int 0), none]) ⟨rfl, rfl, rfl, rfl, rfl, rfl, rfl, rfl, rfl, rfl, rfl, trivial⟩ h
  · have h := h.2 hc
    refine z_aload_n (pc' := 81) dX12_missed_80 rfl rfl ?_
    refine r_getA (kf := 80) (pc' := 84) hK rt_80 dX12_missed_81 kX12_169 rfl (by decide) (by decide) rfl ?_
    refine z_iload_n (pc' := 85) dX12_missed_84 rfl rfl ?_
    refine z_aload_n (pc' := 86) dX12_missed_85 rfl rfl ?_
    refine r_getA (kf := 69) (pc' := 89) hK rt_69 dX12_missed_86 kX12_157 rfl (by decide) (by decide) rfl ?_
    refine z_iload_n (pc' := 90) dX12_missed_89 rfl rfl ?_
    obtain ⟨h1, h⟩ := h
    refine r_iald (pc' := 91) hK rt_69 rfl dX12_missed_90 rfl h1 ?_
    obtain ⟨h1, h⟩ := h
    obtain ⟨S1, hG⟩ : ∃ z, z = zup S 1180 x3.toNatClampNeg (S 1169 x3.toNatClampNeg) := ⟨_, rfl⟩
    have h := h _ hG
    refine r_iast (pc' := 92) hK rt_80 rfl dX12_missed_91 rfl h1  ?_
    refine r_st hG ?_
    refine z_iinc (y := x3 + 1) (pc' := 95) dX12_missed_92 rfl (zinc_1 _) (by decide) rfl ?_
    refine z_goto (pc' := 72) dX12_missed_95 (by decide) ?_
    exact z_dr (ls' := [some (.ref (zp 416 0)), some (.int x1), some (.int x2), some (.int (x3 + 1)), none, none, none, none, none, none, none, none]) ⟨rfl, rfl, rfl, rfl, trivial⟩ h
def rwp_X12_missed_142 (E : ZE) (l : Launch) (d b : Nat) (A G : ZG) (Q : Option Value → ZS9 → Prop) (k : Nat) (x1 : Int32) (x2 : Int32) (x3 : Int32) (x4 : Int32) (x5 : Int32) (x6 : Int32) (x7 : Int32) (x8 : Int32) (x9 : Int32) (x10 : Int32) (S : ZS9) : Prop :=
  ((x2 ≤ x10 →
    zW E l mX12_missed d b A (rQ G Q) k 165 [some (.ref (zp 416 0)), none, none, some (.int x3), some (.int x4), some (.int x5), some (.int x6), some (.int x7), some (.int x8), some (.int x9), some (.int 0), some (.int 0)] [] (zput G S)) ∧
  (¬ (x2 ≤ x10) →
    rcV E l mX12_day d [.int x1] S k (fun S1 k2 =>
    zW E l mX12_missed d b A (rQ G Q) k2 142 [some (.ref (zp 416 0)), some (.int x1), some (.int x2), some (.int x3), some (.int x4), some (.int x5), some (.int x6), some (.int x7), some (.int x8), some (.int x9), some (.int (x10 + 1)), none] [] (zput G S1))))
theorem rwpt_X12_missed_142 {E : ZE} {l : Launch} {d b : Nat} {A G : ZG} {Q : Option Value → ZS9 → Prop} {k : Nat} {x1 : Int32} {x2 : Int32} {x3 : Int32} {x4 : Int32} {x5 : Int32} {x6 : Int32} {x7 : Int32} {x8 : Int32} {x9 : Int32} {x10 : Int32} {S : ZS9} (hK : RK G) (h : rwp_X12_missed_142 E l d b A G Q k x1 x2 x3 x4 x5 x6 x7 x8 x9 x10 S) : zW E l mX12_missed d b A (rQ G Q) k 142 [some (.ref (zp 416 0)), some (.int x1), some (.int x2), some (.int x3), some (.int x4), some (.int x5), some (.int x6), some (.int x7), some (.int x8), some (.int x9), some (.int x10), none] [] (zput G S) := by
  unfold rwp_X12_missed_142 at h
  refine z_iload (pc' := 144) dX12_missed_142 rfl rfl ?_
  refine z_iload_n (pc' := 145) dX12_missed_144 rfl rfl ?_
  refine z_icmp_ge (pt := 159) (pc' := 148) dX12_missed_145 (by decide) rfl (fun hc => ?_) (fun hc => ?_)
  · have h := h.1 hc
    refine z_iconst (x := 0) (pc' := 160) dX12_missed_159 (by decide) rfl ?_
    refine z_istore (pc' := 162) dX12_missed_160 (by decide) rfl ?_
    refine z_iconst (x := 0) (pc' := 163) dX12_missed_162 (by decide) rfl ?_
    refine z_istore (pc' := 165) dX12_missed_163 (by decide) rfl ?_
    exact z_dr (ls' := [some (.ref (zp 416 0)), none, none, some (.int x3), some (.int x4), some (.int x5), some (.int x6), some (.int x7), some (.int x8), some (.int x9), some (.int 0), some (.int 0)]) ⟨rfl, rfl, rfl, rfl, rfl, rfl, rfl, rfl, rfl, rfl, trivial⟩ h
  · have h := h.2 hc
    refine z_aload_n (pc' := 149) dX12_missed_148 rfl rfl ?_
    refine z_iload_n (pc' := 150) dX12_missed_149 rfl rfl ?_
    refine r_callV (Y := mX12_day) (n := 1) (as := [.int x1]) (st := []) (pc' := 153) h hK dX12_missed_150 kX12_490 vX12_day rfl rfl rfl (Nat.le_of_ble_eq_true rfl) (fun S1 k2 h => ?_)
    refine z_iinc (y := x10 + 1) (pc' := 156) dX12_missed_153 rfl (zinc_1 _) (by decide) rfl ?_
    refine z_goto (pc' := 142) dX12_missed_156 (by decide) ?_
    exact z_dr (ls' := [some (.ref (zp 416 0)), some (.int x1), some (.int x2), some (.int x3), some (.int x4), some (.int x5), some (.int x6), some (.int x7), some (.int x8), some (.int x9), some (.int (x10 + 1)), none]) ⟨rfl, rfl, rfl, rfl, rfl, rfl, rfl, rfl, rfl, rfl, rfl, trivial⟩ h
def rwp_X12_missed_165 (E : ZE) (l : Launch) (d b : Nat) (A G : ZG) (Q : Option Value → ZS9 → Prop) (k : Nat) (x3 : Int32) (x4 : Int32) (x5 : Int32) (x6 : Int32) (x7 : Int32) (x8 : Int32) (x9 : Int32) (x10 : Int32) (x11 : Int32) (S : ZS9) : Prop :=
  (((S 416 66) ≤ x11 →
    zW E l mX12_missed d b A (rQ G Q) k 254 [some (.ref (zp 416 0)), none, none, some (.int x3), some (.int x4), some (.int x5), some (.int x6), some (.int x7), some (.int x8), some (.int x9), some (.int x10), some (.int 0)] [] (zput G S)) ∧
  (¬ ((S 416 66) ≤ x11) →
    vp_in ((7 * x11) + 0) 840 ∧
    ((6 < (S 1179 ((7 * x11) + 0).toNatClampNeg) →
      zW E l mX12_missed d b A (rQ G Q) k 165 [some (.ref (zp 416 0)), none, none, some (.int x3), some (.int x4), some (.int x5), some (.int x6), some (.int x7), some (.int x8), some (.int x9), some (.int x10), some (.int (x11 + 1))] [] (zput G S)) ∧
    (¬ (6 < (S 1179 ((7 * x11) + 0).toNatClampNeg)) →
      vp_in x11 120 ∧
      (((S 1156 x11.toNatClampNeg) ≤ (S 416 1) →
        rcI E l mX12_now d [.int x11, .int 3] S k (fun y3 S1 k2 =>
        ((y3 < 0 →
          zW E l mX12_missed d b A (rQ G Q) k2 165 [some (.ref (zp 416 0)), none, none, some (.int x3), some (.int x4), some (.int x5), some (.int x6), some (.int x7), some (.int x8), some (.int x9), some (.int (x10 + 1)), some (.int (x11 + 1))] [] (zput G S1)) ∧
        (¬ (y3 < 0) →
          rcI E l mX12_now d [.int x11, .int 3] S1 k2 (fun y6 S4 k5 =>
          vp_in x11 120 ∧
          (((S4 1156 x11.toNatClampNeg) < y6 →
            zW E l mX12_missed d b A (rQ G Q) k5 165 [some (.ref (zp 416 0)), none, none, some (.int x3), some (.int x4), some (.int x5), some (.int x6), some (.int x7), some (.int x8), some (.int x9), some (.int (x10 + 1)), some (.int (x11 + 1))] [] (zput G S4)) ∧
          (¬ ((S4 1156 x11.toNatClampNeg) < y6) →
            zW E l mX12_missed d b A (rQ G Q) k5 165 [some (.ref (zp 416 0)), none, none, some (.int x3), some (.int x4), some (.int x5), some (.int x6), some (.int x7), some (.int x8), some (.int x9), some (.int (x10 + 0)), some (.int (x11 + 1))] [] (zput G S4)))))))) ∧
      (¬ ((S 1156 x11.toNatClampNeg) ≤ (S 416 1)) →
        zW E l mX12_missed d b A (rQ G Q) k 165 [some (.ref (zp 416 0)), none, none, some (.int x3), some (.int x4), some (.int x5), some (.int x6), some (.int x7), some (.int x8), some (.int x9), some (.int x10), some (.int (x11 + 1))] [] (zput G S)))))))
theorem rwpt_X12_missed_165 {E : ZE} {l : Launch} {d b : Nat} {A G : ZG} {Q : Option Value → ZS9 → Prop} {k : Nat} {x3 : Int32} {x4 : Int32} {x5 : Int32} {x6 : Int32} {x7 : Int32} {x8 : Int32} {x9 : Int32} {x10 : Int32} {x11 : Int32} {S : ZS9} (hK : RK G) (h : rwp_X12_missed_165 E l d b A G Q k x3 x4 x5 x6 x7 x8 x9 x10 x11 S) : zW E l mX12_missed d b A (rQ G Q) k 165 [some (.ref (zp 416 0)), none, none, some (.int x3), some (.int x4), some (.int x5), some (.int x6), some (.int x7), some (.int x8), some (.int x9), some (.int x10), some (.int x11)] [] (zput G S) := by
  unfold rwp_X12_missed_165 at h
  refine z_iload (pc' := 167) dX12_missed_165 rfl rfl ?_
  refine z_aload_n (pc' := 168) dX12_missed_167 rfl rfl ?_
  refine r_getI (kf := 66) (pc' := 171) hK dX12_missed_168 kX12_412 rfl (by decide) (by decide) rfl ?_
  refine z_icmp_ge (pt := 251) (pc' := 174) dX12_missed_171 (by decide) rfl (fun hc => ?_) (fun hc => ?_)
  · have h := h.1 hc
    refine z_iconst (x := 0) (pc' := 252) dX12_missed_251 (by decide) rfl ?_
    refine z_istore (pc' := 254) dX12_missed_252 (by decide) rfl ?_
    exact z_dr (ls' := [some (.ref (zp 416 0)), none, none, some (.int x3), some (.int x4), some (.int x5), some (.int x6), some (.int x7), some (.int x8), some (.int x9), some (.int x10), some (.int 0)]) ⟨rfl, rfl, rfl, rfl, rfl, rfl, rfl, rfl, rfl, rfl, trivial⟩ h
  · have h := h.2 hc
    refine z_aload_n (pc' := 175) dX12_missed_174 rfl rfl ?_
    refine r_getA (kf := 79) (pc' := 178) hK rt_79 dX12_missed_175 kX12_166 rfl (by decide) (by decide) rfl ?_
    refine z_bipush (x := 7) (pc' := 180) dX12_missed_178 (by decide) rfl ?_
    refine z_iload (pc' := 182) dX12_missed_180 rfl rfl ?_
    refine z_imul (pc' := 183) dX12_missed_182 rfl rfl ?_
    refine z_iconst (x := 0) (pc' := 184) dX12_missed_183 (by decide) rfl ?_
    refine z_iadd (pc' := 185) dX12_missed_184 rfl rfl ?_
    obtain ⟨h1, h⟩ := h
    refine r_iald (pc' := 186) hK rt_79 rfl dX12_missed_185 rfl h1 ?_
    refine z_bipush (x := 6) (pc' := 188) dX12_missed_186 (by decide) rfl ?_
    refine z_icmp_gt (pt := 245) (pc' := 191) dX12_missed_188 (by decide) rfl (fun hc => ?_) (fun hc => ?_)
    · have h := h.1 hc
      refine z_iinc (y := x11 + 1) (pc' := 248) dX12_missed_245 rfl (zinc_1 _) (by decide) rfl ?_
      refine z_goto (pc' := 165) dX12_missed_248 (by decide) ?_
      exact z_dr (ls' := [some (.ref (zp 416 0)), none, none, some (.int x3), some (.int x4), some (.int x5), some (.int x6), some (.int x7), some (.int x8), some (.int x9), some (.int x10), some (.int (x11 + 1))]) ⟨rfl, rfl, rfl, rfl, rfl, rfl, rfl, rfl, rfl, rfl, trivial⟩ h
    · have h := h.2 hc
      refine z_aload_n (pc' := 192) dX12_missed_191 rfl rfl ?_
      refine r_getA (kf := 56) (pc' := 195) hK rt_56 dX12_missed_192 kX12_121 rfl (by decide) (by decide) rfl ?_
      refine z_iload (pc' := 197) dX12_missed_195 rfl rfl ?_
      obtain ⟨h1, h⟩ := h
      refine r_iald (pc' := 198) hK rt_56 rfl dX12_missed_197 rfl h1 ?_
      refine z_aload_n (pc' := 199) dX12_missed_198 rfl rfl ?_
      refine r_getI (kf := 1) (pc' := 202) hK dX12_missed_199 kX12_314 rfl (by decide) (by decide) rfl ?_
      refine z_icmp_le (pt := 208) (pc' := 205) dX12_missed_202 (by decide) rfl (fun hc => ?_) (fun hc => ?_)
      · have h := h.1 hc
        refine z_iload (pc' := 210) dX12_missed_208 rfl rfl ?_
        refine z_aload_n (pc' := 211) dX12_missed_210 rfl rfl ?_
        refine z_iload (pc' := 213) dX12_missed_211 rfl rfl ?_
        refine z_iconst (x := 3) (pc' := 214) dX12_missed_213 (by decide) rfl ?_
        refine r_callI (Y := mX12_now) (n := 2) (as := [.int x11, .int 3]) (st := [.int x10]) (pc' := 217) h hK dX12_missed_214 kX12_434 vX12_now rfl rfl rfl (Nat.le_of_ble_eq_true rfl) (fun y3 S1 k2 h => ?_)
        refine z_if_lt (pt := 241) (pc' := 220) dX12_missed_217 (by decide) rfl (fun hc => ?_) (fun hc => ?_)
        · have h := h.1 hc
          refine z_iconst (x := 1) (pc' := 242) dX12_missed_241 (by decide) rfl ?_
          refine z_iadd (pc' := 243) dX12_missed_242 rfl rfl ?_
          refine z_istore (pc' := 245) dX12_missed_243 (by decide) rfl ?_
          refine z_iinc (y := x11 + 1) (pc' := 248) dX12_missed_245 rfl (zinc_1 _) (by decide) rfl ?_
          refine z_goto (pc' := 165) dX12_missed_248 (by decide) ?_
          exact z_dr (ls' := [some (.ref (zp 416 0)), none, none, some (.int x3), some (.int x4), some (.int x5), some (.int x6), some (.int x7), some (.int x8), some (.int x9), some (.int (x10 + 1)), some (.int (x11 + 1))]) ⟨rfl, rfl, rfl, rfl, rfl, rfl, rfl, rfl, rfl, rfl, trivial⟩ h
        · have h := h.2 hc
          refine z_aload_n (pc' := 221) dX12_missed_220 rfl rfl ?_
          refine z_iload (pc' := 223) dX12_missed_221 rfl rfl ?_
          refine z_iconst (x := 3) (pc' := 224) dX12_missed_223 (by decide) rfl ?_
          refine r_callI (Y := mX12_now) (n := 2) (as := [.int x11, .int 3]) (st := [.int x10]) (pc' := 227) h hK dX12_missed_224 kX12_434 vX12_now rfl rfl rfl (Nat.le_of_ble_eq_true rfl) (fun y6 S4 k5 h => ?_)
          refine z_aload_n (pc' := 228) dX12_missed_227 rfl rfl ?_
          refine r_getA (kf := 56) (pc' := 231) hK rt_56 dX12_missed_228 kX12_121 rfl (by decide) (by decide) rfl ?_
          refine z_iload (pc' := 233) dX12_missed_231 rfl rfl ?_
          obtain ⟨h1, h⟩ := h
          refine r_iald (pc' := 234) hK rt_56 rfl dX12_missed_233 rfl h1 ?_
          refine z_icmp_gt (pt := 241) (pc' := 237) dX12_missed_234 (by decide) rfl (fun hc => ?_) (fun hc => ?_)
          · have h := h.1 hc
            refine z_iconst (x := 1) (pc' := 242) dX12_missed_241 (by decide) rfl ?_
            refine z_iadd (pc' := 243) dX12_missed_242 rfl rfl ?_
            refine z_istore (pc' := 245) dX12_missed_243 (by decide) rfl ?_
            refine z_iinc (y := x11 + 1) (pc' := 248) dX12_missed_245 rfl (zinc_1 _) (by decide) rfl ?_
            refine z_goto (pc' := 165) dX12_missed_248 (by decide) ?_
            exact z_dr (ls' := [some (.ref (zp 416 0)), none, none, some (.int x3), some (.int x4), some (.int x5), some (.int x6), some (.int x7), some (.int x8), some (.int x9), some (.int (x10 + 1)), some (.int (x11 + 1))]) ⟨rfl, rfl, rfl, rfl, rfl, rfl, rfl, rfl, rfl, rfl, trivial⟩ h
          · have h := h.2 hc
            refine z_iconst (x := 0) (pc' := 238) dX12_missed_237 (by decide) rfl ?_
            refine z_goto (pc' := 242) dX12_missed_238 (by decide) ?_
            refine z_iadd (pc' := 243) dX12_missed_242 rfl rfl ?_
            refine z_istore (pc' := 245) dX12_missed_243 (by decide) rfl ?_
            refine z_iinc (y := x11 + 1) (pc' := 248) dX12_missed_245 rfl (zinc_1 _) (by decide) rfl ?_
            refine z_goto (pc' := 165) dX12_missed_248 (by decide) ?_
            exact z_dr (ls' := [some (.ref (zp 416 0)), none, none, some (.int x3), some (.int x4), some (.int x5), some (.int x6), some (.int x7), some (.int x8), some (.int x9), some (.int (x10 + 0)), some (.int (x11 + 1))]) ⟨rfl, rfl, rfl, rfl, rfl, rfl, rfl, rfl, rfl, rfl, trivial⟩ h
      · have h := h.2 hc
        refine z_goto (pc' := 245) dX12_missed_205 (by decide) ?_
        refine z_iinc (y := x11 + 1) (pc' := 248) dX12_missed_245 rfl (zinc_1 _) (by decide) rfl ?_
        refine z_goto (pc' := 165) dX12_missed_248 (by decide) ?_
        exact z_dr (ls' := [some (.ref (zp 416 0)), none, none, some (.int x3), some (.int x4), some (.int x5), some (.int x6), some (.int x7), some (.int x8), some (.int x9), some (.int x10), some (.int (x11 + 1))]) ⟨rfl, rfl, rfl, rfl, rfl, rfl, rfl, rfl, rfl, rfl, trivial⟩ h
def rwp_X12_missed_254 (E : ZE) (l : Launch) (d b : Nat) (A G : ZG) (Q : Option Value → ZS9 → Prop) (k : Nat) (x3 : Int32) (x4 : Int32) (x5 : Int32) (x6 : Int32) (x7 : Int32) (x8 : Int32) (x9 : Int32) (x10 : Int32) (x11 : Int32) (S : ZS9) : Prop :=
  (((7 * (S 416 66)) ≤ x11 →
    zW E l mX12_missed d b A (rQ G Q) k 289 [some (.ref (zp 416 0)), none, none, some (.int x3), some (.int x4), some (.int x5), some (.int x6), some (.int x7), some (.int x8), some (.int x9), some (.int x10), some (.int 0)] [] (zput G S)) ∧
  (¬ ((7 * (S 416 66)) ≤ x11) →
    vp_in x11 840 ∧
    vp_in x11 840 ∧
    ∀ S1, S1 = zup S 1165 x11.toNatClampNeg (S 1179 x11.toNatClampNeg) →
    zW E l mX12_missed d b A (rQ G Q) k 254 [some (.ref (zp 416 0)), none, none, some (.int x3), some (.int x4), some (.int x5), some (.int x6), some (.int x7), some (.int x8), some (.int x9), some (.int x10), some (.int (x11 + 1))] [] (zput G S1)))
theorem rwpt_X12_missed_254 {E : ZE} {l : Launch} {d b : Nat} {A G : ZG} {Q : Option Value → ZS9 → Prop} {k : Nat} {x3 : Int32} {x4 : Int32} {x5 : Int32} {x6 : Int32} {x7 : Int32} {x8 : Int32} {x9 : Int32} {x10 : Int32} {x11 : Int32} {S : ZS9} (hK : RK G) (h : rwp_X12_missed_254 E l d b A G Q k x3 x4 x5 x6 x7 x8 x9 x10 x11 S) : zW E l mX12_missed d b A (rQ G Q) k 254 [some (.ref (zp 416 0)), none, none, some (.int x3), some (.int x4), some (.int x5), some (.int x6), some (.int x7), some (.int x8), some (.int x9), some (.int x10), some (.int x11)] [] (zput G S) := by
  unfold rwp_X12_missed_254 at h
  refine z_iload (pc' := 256) dX12_missed_254 rfl rfl ?_
  refine z_bipush (x := 7) (pc' := 258) dX12_missed_256 (by decide) rfl ?_
  refine z_aload_n (pc' := 259) dX12_missed_258 rfl rfl ?_
  refine r_getI (kf := 66) (pc' := 262) hK dX12_missed_259 kX12_412 rfl (by decide) (by decide) rfl ?_
  refine z_imul (pc' := 263) dX12_missed_262 rfl rfl ?_
  refine z_icmp_ge (pt := 286) (pc' := 266) dX12_missed_263 (by decide) rfl (fun hc => ?_) (fun hc => ?_)
  · have h := h.1 hc
    refine z_iconst (x := 0) (pc' := 287) dX12_missed_286 (by decide) rfl ?_
    refine z_istore (pc' := 289) dX12_missed_287 (by decide) rfl ?_
    exact z_dr (ls' := [some (.ref (zp 416 0)), none, none, some (.int x3), some (.int x4), some (.int x5), some (.int x6), some (.int x7), some (.int x8), some (.int x9), some (.int x10), some (.int 0)]) ⟨rfl, rfl, rfl, rfl, rfl, rfl, rfl, rfl, rfl, rfl, trivial⟩ h
  · have h := h.2 hc
    refine z_aload_n (pc' := 267) dX12_missed_266 rfl rfl ?_
    refine r_getA (kf := 65) (pc' := 270) hK rt_65 dX12_missed_267 kX12_148 rfl (by decide) (by decide) rfl ?_
    refine z_iload (pc' := 272) dX12_missed_270 rfl rfl ?_
    refine z_aload_n (pc' := 273) dX12_missed_272 rfl rfl ?_
    refine r_getA (kf := 79) (pc' := 276) hK rt_79 dX12_missed_273 kX12_166 rfl (by decide) (by decide) rfl ?_
    refine z_iload (pc' := 278) dX12_missed_276 rfl rfl ?_
    obtain ⟨h1, h⟩ := h
    refine r_iald (pc' := 279) hK rt_79 rfl dX12_missed_278 rfl h1 ?_
    obtain ⟨h1, h⟩ := h
    obtain ⟨S1, hG⟩ : ∃ z, z = zup S 1165 x11.toNatClampNeg (S 1179 x11.toNatClampNeg) := ⟨_, rfl⟩
    have h := h _ hG
    refine r_iast (pc' := 280) hK rt_65 rfl dX12_missed_279 rfl h1  ?_
    refine r_st hG ?_
    refine z_iinc (y := x11 + 1) (pc' := 283) dX12_missed_280 rfl (zinc_1 _) (by decide) rfl ?_
    refine z_goto (pc' := 254) dX12_missed_283 (by decide) ?_
    exact z_dr (ls' := [some (.ref (zp 416 0)), none, none, some (.int x3), some (.int x4), some (.int x5), some (.int x6), some (.int x7), some (.int x8), some (.int x9), some (.int x10), some (.int (x11 + 1))]) ⟨rfl, rfl, rfl, rfl, rfl, rfl, rfl, rfl, rfl, rfl, trivial⟩ h
def rwp_X12_missed_289 (E : ZE) (l : Launch) (d b : Nat) (A G : ZG) (Q : Option Value → ZS9 → Prop) (k : Nat) (x3 : Int32) (x4 : Int32) (x5 : Int32) (x6 : Int32) (x7 : Int32) (x8 : Int32) (x9 : Int32) (x10 : Int32) (x11 : Int32) (S : ZS9) : Prop :=
  ((x4 ≤ x11 →
    ∀ S1, S1 = zup S 416 1 x3 →
    ∀ S2, S2 = zup S1 416 71 x4 →
    ∀ S3, S3 = zup S2 416 43 x5 →
    ∀ S4, S4 = zup S3 416 73 x6 →
    ∀ S5, S5 = zup S4 416 74 x7 →
    ∀ S6, S6 = zup S5 416 75 x8 →
    ∀ S7, S7 = zup S6 416 76 x9 →
    Q (some (.int x10)) S7) ∧
  (¬ (x4 ≤ x11) →
    vp_in x11 150 ∧
    vp_in x11 150 ∧
    ∀ S8, S8 = zup S 1169 x11.toNatClampNeg (S 1180 x11.toNatClampNeg) →
    zW E l mX12_missed d b A (rQ G Q) k 289 [some (.ref (zp 416 0)), none, none, some (.int x3), some (.int x4), some (.int x5), some (.int x6), some (.int x7), some (.int x8), some (.int x9), some (.int x10), some (.int (x11 + 1))] [] (zput G S8)))
theorem rwpt_X12_missed_289 {E : ZE} {l : Launch} {d b : Nat} {A G : ZG} {Q : Option Value → ZS9 → Prop} {k : Nat} {x3 : Int32} {x4 : Int32} {x5 : Int32} {x6 : Int32} {x7 : Int32} {x8 : Int32} {x9 : Int32} {x10 : Int32} {x11 : Int32} {S : ZS9} (hK : RK G) (h : rwp_X12_missed_289 E l d b A G Q k x3 x4 x5 x6 x7 x8 x9 x10 x11 S) : zW E l mX12_missed d b A (rQ G Q) k 289 [some (.ref (zp 416 0)), none, none, some (.int x3), some (.int x4), some (.int x5), some (.int x6), some (.int x7), some (.int x8), some (.int x9), some (.int x10), some (.int x11)] [] (zput G S) := by
  unfold rwp_X12_missed_289 at h
  refine z_iload (pc' := 291) dX12_missed_289 rfl rfl ?_
  refine z_iload (pc' := 293) dX12_missed_291 rfl rfl ?_
  refine z_icmp_ge (pt := 316) (pc' := 296) dX12_missed_293 (by decide) rfl (fun hc => ?_) (fun hc => ?_)
  · have h := h.1 hc
    refine z_aload_n (pc' := 317) dX12_missed_316 rfl rfl ?_
    refine z_iload_n (pc' := 318) dX12_missed_317 rfl rfl ?_
    obtain ⟨S1, hG⟩ : ∃ z, z = zup S 416 1 x3 := ⟨_, rfl⟩
    have h := h _ hG
    refine r_putI (kf := 1) (pc' := 321) hK dX12_missed_318 kX12_314 rfl (by decide) (by decide) rfl rfl (zok_int _) ?_
    refine r_st hG ?_
    refine z_aload_n (pc' := 322) dX12_missed_321 rfl rfl ?_
    refine z_iload (pc' := 324) dX12_missed_322 rfl rfl ?_
    obtain ⟨S2, hG⟩ : ∃ z, z = zup S1 416 71 x4 := ⟨_, rfl⟩
    have h := h _ hG
    refine r_putI (kf := 71) (pc' := 327) hK dX12_missed_324 kX12_415 rfl (by decide) (by decide) rfl rfl (zok_int _) ?_
    refine r_st hG ?_
    refine z_aload_n (pc' := 328) dX12_missed_327 rfl rfl ?_
    refine z_iload (pc' := 330) dX12_missed_328 rfl rfl ?_
    obtain ⟨S3, hG⟩ : ∃ z, z = zup S2 416 43 x5 := ⟨_, rfl⟩
    have h := h _ hG
    refine r_putI (kf := 43) (pc' := 333) hK dX12_missed_330 kX12_406 rfl (by decide) (by decide) rfl rfl (zok_int _) ?_
    refine r_st hG ?_
    refine z_aload_n (pc' := 334) dX12_missed_333 rfl rfl ?_
    refine z_iload (pc' := 336) dX12_missed_334 rfl rfl ?_
    obtain ⟨S4, hG⟩ : ∃ z, z = zup S3 416 73 x6 := ⟨_, rfl⟩
    have h := h _ hG
    refine r_putI (kf := 73) (pc' := 339) hK dX12_missed_336 kX12_456 rfl (by decide) (by decide) rfl rfl (zok_int _) ?_
    refine r_st hG ?_
    refine z_aload_n (pc' := 340) dX12_missed_339 rfl rfl ?_
    refine z_iload (pc' := 342) dX12_missed_340 rfl rfl ?_
    obtain ⟨S5, hG⟩ : ∃ z, z = zup S4 416 74 x7 := ⟨_, rfl⟩
    have h := h _ hG
    refine r_putI (kf := 74) (pc' := 345) hK dX12_missed_342 kX12_465 rfl (by decide) (by decide) rfl rfl (zok_int _) ?_
    refine r_st hG ?_
    refine z_aload_n (pc' := 346) dX12_missed_345 rfl rfl ?_
    refine z_iload (pc' := 348) dX12_missed_346 rfl rfl ?_
    obtain ⟨S6, hG⟩ : ∃ z, z = zup S5 416 75 x8 := ⟨_, rfl⟩
    have h := h _ hG
    refine r_putI (kf := 75) (pc' := 351) hK dX12_missed_348 kX12_484 rfl (by decide) (by decide) rfl rfl (zok_int _) ?_
    refine r_st hG ?_
    refine z_aload_n (pc' := 352) dX12_missed_351 rfl rfl ?_
    refine z_iload (pc' := 354) dX12_missed_352 rfl rfl ?_
    obtain ⟨S7, hG⟩ : ∃ z, z = zup S6 416 76 x9 := ⟨_, rfl⟩
    have h := h _ hG
    refine r_putI (kf := 76) (pc' := 357) hK dX12_missed_354 kX12_481 rfl (by decide) (by decide) rfl rfl (zok_int _) ?_
    refine r_st hG ?_
    refine z_iload (pc' := 359) dX12_missed_357 rfl rfl ?_
    exact z_iret dX12_missed_359 rfl ⟨_, _, rfl, rfl, h⟩
  · have h := h.2 hc
    refine z_aload_n (pc' := 297) dX12_missed_296 rfl rfl ?_
    refine r_getA (kf := 69) (pc' := 300) hK rt_69 dX12_missed_297 kX12_157 rfl (by decide) (by decide) rfl ?_
    refine z_iload (pc' := 302) dX12_missed_300 rfl rfl ?_
    refine z_aload_n (pc' := 303) dX12_missed_302 rfl rfl ?_
    refine r_getA (kf := 80) (pc' := 306) hK rt_80 dX12_missed_303 kX12_169 rfl (by decide) (by decide) rfl ?_
    refine z_iload (pc' := 308) dX12_missed_306 rfl rfl ?_
    obtain ⟨h1, h⟩ := h
    refine r_iald (pc' := 309) hK rt_80 rfl dX12_missed_308 rfl h1 ?_
    obtain ⟨h1, h⟩ := h
    obtain ⟨S8, hG⟩ : ∃ z, z = zup S 1169 x11.toNatClampNeg (S 1180 x11.toNatClampNeg) := ⟨_, rfl⟩
    have h := h _ hG
    refine r_iast (pc' := 310) hK rt_69 rfl dX12_missed_309 rfl h1  ?_
    refine r_st hG ?_
    refine z_iinc (y := x11 + 1) (pc' := 313) dX12_missed_310 rfl (zinc_1 _) (by decide) rfl ?_
    refine z_goto (pc' := 289) dX12_missed_313 (by decide) ?_
    exact z_dr (ls' := [some (.ref (zp 416 0)), none, none, some (.int x3), some (.int x4), some (.int x5), some (.int x6), some (.int x7), some (.int x8), some (.int x9), some (.int x10), some (.int (x11 + 1))]) ⟨rfl, rfl, rfl, rfl, rfl, rfl, rfl, rfl, rfl, rfl, trivial⟩ h
def rwp_X12_name_0 (E : ZE) (l : Launch) (d b : Nat) (A G : ZG) (Q : Option Value → ZS9 → Prop) (k : Nat) (x1 : Int32) (S : ZS9) : Prop :=
  rcV E l mX12_uses d [] S k (fun S1 k2 =>
  rcI E l mX12_nobody d [.int x1] S1 k2 (fun y5 S3 k4 =>
  rcI E l mX12_throwsIf d [.int y5, .int 1] S3 k4 (fun y8 S6 k7 =>
  ((y8 = 0 →
    rcI E l mX12_readName d [] S6 k7 (fun y11 S9 k10 =>
    ((0 ≤ y11 →
      zW E l mX12_name d b A (rQ G Q) k10 37 [some (.ref (zp 416 0)), some (.int x1), some (.int y11), none] [.int (-1), .ref (zp 416 0)] (zput G S9)) ∧
    (¬ (0 ≤ y11) →
      zW E l mX12_name d b A (rQ G Q) k10 37 [some (.ref (zp 416 0)), some (.int x1), some (.int y11), none] [.int (S9 416 6), .ref (zp 416 0)] (zput G S9))))) ∧
  (¬ (y8 = 0) →
    Q (some (.int 0)) S6)))))
theorem rwpt_X12_name_0 {E : ZE} {l : Launch} {d b : Nat} {A G : ZG} {Q : Option Value → ZS9 → Prop} {k : Nat} {x1 : Int32} {S : ZS9} (hK : RK G) (h : rwp_X12_name_0 E l d b A G Q k x1 S) : zW E l mX12_name d b A (rQ G Q) k 0 [some (.ref (zp 416 0)), some (.int x1), none, none] [] (zput G S) := by
  unfold rwp_X12_name_0 at h
  refine z_aload_n (pc' := 1) dX12_name_0 rfl rfl ?_
  refine r_callV (Y := mX12_uses) (n := 0) (as := []) (st := []) (pc' := 4) h hK dX12_name_1 kX12_311 vX12_uses rfl rfl rfl (Nat.le_of_ble_eq_true rfl) (fun S1 k2 h => ?_)
  refine z_aload_n (pc' := 5) dX12_name_4 rfl rfl ?_
  refine z_aload_n (pc' := 6) dX12_name_5 rfl rfl ?_
  refine z_iload_n (pc' := 7) dX12_name_6 rfl rfl ?_
  refine r_callI (Y := mX12_nobody) (n := 1) (as := [.int x1]) (st := [.ref (zp 416 0)]) (pc' := 10) h hK dX12_name_7 kX12_385 vX12_nobody rfl rfl rfl (Nat.le_of_ble_eq_true rfl) (fun y5 S3 k4 h => ?_)
  refine z_iconst (x := 1) (pc' := 11) dX12_name_10 (by decide) rfl ?_
  refine r_callI (Y := mX12_throwsIf) (n := 2) (as := [.int y5, .int 1]) (st := []) (pc' := 14) h hK dX12_name_11 kX12_321 vX12_throwsIf rfl rfl rfl (Nat.le_of_ble_eq_true rfl) (fun y8 S6 k7 h => ?_)
  refine z_if_eq (pt := 19) (pc' := 17) dX12_name_14 (by decide) rfl (fun hc => ?_) (fun hc => ?_)
  · have h := h.1 hc
    refine z_aload_n (pc' := 20) dX12_name_19 rfl rfl ?_
    refine r_callI (Y := mX12_readName) (n := 0) (as := []) (st := []) (pc' := 23) h hK dX12_name_20 kX12_388 vX12_readName rfl rfl rfl (Nat.le_of_ble_eq_true rfl) (fun y11 S9 k10 h => ?_)
    refine z_istore_n (pc' := 24) dX12_name_23 (by decide) rfl ?_
    refine z_aload_n (pc' := 25) dX12_name_24 rfl rfl ?_
    refine z_iload_n (pc' := 26) dX12_name_25 rfl rfl ?_
    refine z_if_ge (pt := 36) (pc' := 29) dX12_name_26 (by decide) rfl (fun hc => ?_) (fun hc => ?_)
    · have h := h.1 hc
      refine z_iconst (x := (-1)) (pc' := 37) dX12_name_36 (by decide) rfl ?_
      exact z_dr (ls' := [some (.ref (zp 416 0)), some (.int x1), some (.int y11), none]) ⟨rfl, rfl, rfl, trivial⟩ h
    · have h := h.2 hc
      refine z_aload_n (pc' := 30) dX12_name_29 rfl rfl ?_
      refine r_getI (kf := 6) (pc' := 33) hK dX12_name_30 kX12_194 rfl (by decide) (by decide) rfl ?_
      refine z_goto (pc' := 37) dX12_name_33 (by decide) ?_
      exact z_dr (ls' := [some (.ref (zp 416 0)), some (.int x1), some (.int y11), none]) ⟨rfl, rfl, rfl, trivial⟩ h
  · have h := h.2 hc
    refine z_iconst (x := 0) (pc' := 18) dX12_name_17 (by decide) rfl ?_
    exact z_iret dX12_name_18 rfl ⟨_, _, rfl, rfl, h⟩
def rwp_X12_name_37 (E : ZE) (l : Launch) (d b : Nat) (A G : ZG) (Q : Option Value → ZS9 → Prop) (k : Nat) (x1 : Int32) (x2 : Int32) (s0 : Int32) (S : ZS9) : Prop :=
  ∀ S1, S1 = zup S 416 8 s0 →
  ((0 ≤ x2 →
    rcI E l mX12_throwsIf d [.int 0, .int 2] S1 k (fun y4 S2 k3 =>
    ((y4 = 0 →
      vp_in x1 80 ∧
      ∀ S5, S5 = zup S2 2133 x1.toNatClampNeg 1 →
      zW E l mX12_name d b A (rQ G Q) k3 68 [some (.ref (zp 416 0)), some (.int x1), some (.int x2), some (.int 0)] [] (zput G S5)) ∧
    (¬ (y4 = 0) →
      Q (some (.int 0)) S2)))) ∧
  (¬ (0 ≤ x2) →
    rcI E l mX12_throwsIf d [.int 1, .int 2] S1 k (fun y8 S6 k7 =>
    ((y8 = 0 →
      vp_in x1 80 ∧
      ∀ S9, S9 = zup S6 2133 x1.toNatClampNeg 1 →
      zW E l mX12_name d b A (rQ G Q) k7 68 [some (.ref (zp 416 0)), some (.int x1), some (.int x2), some (.int 0)] [] (zput G S9)) ∧
    (¬ (y8 = 0) →
      Q (some (.int 0)) S6)))))
theorem rwpt_X12_name_37 {E : ZE} {l : Launch} {d b : Nat} {A G : ZG} {Q : Option Value → ZS9 → Prop} {k : Nat} {x1 : Int32} {x2 : Int32} {s0 : Int32} {S : ZS9} (hK : RK G) (h : rwp_X12_name_37 E l d b A G Q k x1 x2 s0 S) : zW E l mX12_name d b A (rQ G Q) k 37 [some (.ref (zp 416 0)), some (.int x1), some (.int x2), none] [.int s0, .ref (zp 416 0)] (zput G S) := by
  unfold rwp_X12_name_37 at h
  obtain ⟨S1, hG⟩ : ∃ z, z = zup S 416 8 s0 := ⟨_, rfl⟩
  have h := h _ hG
  refine r_putI (kf := 8) (pc' := 40) hK dX12_name_37 kX12_13 rfl (by decide) (by decide) rfl rfl (zok_int _) ?_
  refine r_st hG ?_
  refine z_aload_n (pc' := 41) dX12_name_40 rfl rfl ?_
  refine z_iload_n (pc' := 42) dX12_name_41 rfl rfl ?_
  refine z_if_ge (pt := 49) (pc' := 45) dX12_name_42 (by decide) rfl (fun hc => ?_) (fun hc => ?_)
  · have h := h.1 hc
    refine z_iconst (x := 0) (pc' := 50) dX12_name_49 (by decide) rfl ?_
    refine z_iconst (x := 2) (pc' := 51) dX12_name_50 (by decide) rfl ?_
    refine r_callI (Y := mX12_throwsIf) (n := 2) (as := [.int 0, .int 2]) (st := []) (pc' := 54) h hK dX12_name_51 kX12_321 vX12_throwsIf rfl rfl rfl (Nat.le_of_ble_eq_true rfl) (fun y4 S2 k3 h => ?_)
    refine z_if_eq (pt := 59) (pc' := 57) dX12_name_54 (by decide) rfl (fun hc => ?_) (fun hc => ?_)
    · have h := h.1 hc
      refine z_aload_n (pc' := 60) dX12_name_59 rfl rfl ?_
      refine r_getA (kf := 33) (pc' := 63) hK rt_33 dX12_name_60 kX12_67 rfl (by decide) (by decide) rfl ?_
      refine z_iload_n (pc' := 64) dX12_name_63 rfl rfl ?_
      refine z_iconst (x := 1) (pc' := 65) dX12_name_64 (by decide) rfl ?_
      obtain ⟨h1, h⟩ := h
      obtain ⟨S5, hG⟩ : ∃ z, z = zup S2 2133 x1.toNatClampNeg 1 := ⟨_, rfl⟩
      have h := h _ hG
      refine r_zast (pc' := 66) hK rt_33 rfl dX12_name_65 rfl h1 zok_1 ?_
      refine r_st hG ?_
      refine z_iconst (x := 0) (pc' := 67) dX12_name_66 (by decide) rfl ?_
      refine z_istore_n (pc' := 68) dX12_name_67 (by decide) rfl ?_
      exact z_dr (ls' := [some (.ref (zp 416 0)), some (.int x1), some (.int x2), some (.int 0)]) ⟨rfl, rfl, rfl, rfl, trivial⟩ h
    · have h := h.2 hc
      refine z_iconst (x := 0) (pc' := 58) dX12_name_57 (by decide) rfl ?_
      exact z_iret dX12_name_58 rfl ⟨_, _, rfl, rfl, h⟩
  · have h := h.2 hc
    refine z_iconst (x := 1) (pc' := 46) dX12_name_45 (by decide) rfl ?_
    refine z_goto (pc' := 50) dX12_name_46 (by decide) ?_
    refine z_iconst (x := 2) (pc' := 51) dX12_name_50 (by decide) rfl ?_
    refine r_callI (Y := mX12_throwsIf) (n := 2) (as := [.int 1, .int 2]) (st := []) (pc' := 54) h hK dX12_name_51 kX12_321 vX12_throwsIf rfl rfl rfl (Nat.le_of_ble_eq_true rfl) (fun y8 S6 k7 h => ?_)
    refine z_if_eq (pt := 59) (pc' := 57) dX12_name_54 (by decide) rfl (fun hc => ?_) (fun hc => ?_)
    · have h := h.1 hc
      refine z_aload_n (pc' := 60) dX12_name_59 rfl rfl ?_
      refine r_getA (kf := 33) (pc' := 63) hK rt_33 dX12_name_60 kX12_67 rfl (by decide) (by decide) rfl ?_
      refine z_iload_n (pc' := 64) dX12_name_63 rfl rfl ?_
      refine z_iconst (x := 1) (pc' := 65) dX12_name_64 (by decide) rfl ?_
      obtain ⟨h1, h⟩ := h
      obtain ⟨S9, hG⟩ : ∃ z, z = zup S6 2133 x1.toNatClampNeg 1 := ⟨_, rfl⟩
      have h := h _ hG
      refine r_zast (pc' := 66) hK rt_33 rfl dX12_name_65 rfl h1 zok_1 ?_
      refine r_st hG ?_
      refine z_iconst (x := 0) (pc' := 67) dX12_name_66 (by decide) rfl ?_
      refine z_istore_n (pc' := 68) dX12_name_67 (by decide) rfl ?_
      exact z_dr (ls' := [some (.ref (zp 416 0)), some (.int x1), some (.int x2), some (.int 0)]) ⟨rfl, rfl, rfl, rfl, trivial⟩ h
    · have h := h.2 hc
      refine z_iconst (x := 0) (pc' := 58) dX12_name_57 (by decide) rfl ?_
      exact z_iret dX12_name_58 rfl ⟨_, _, rfl, rfl, h⟩
def rwp_X12_name_68 (E : ZE) (l : Launch) (d b : Nat) (A G : ZG) (Q : Option Value → ZS9 → Prop) (k : Nat) (x1 : Int32) (x2 : Int32) (x3 : Int32) (S : ZS9) : Prop :=
  ((24 ≤ x3 →
    Q (some (.int x2)) S) ∧
  (¬ (24 ≤ x3) →
    ((x2 ≤ x3 →
      vp_in ((24 * x1) + x3) 1920 ∧
      ∀ S1, S1 = zup S 1132 ((24 * x1) + x3).toNatClampNeg 60 →
      zW E l mX12_name d b A (rQ G Q) k 68 [some (.ref (zp 416 0)), some (.int x1), some (.int x2), some (.int (x3 + 1))] [] (zput G S1)) ∧
    (¬ (x2 ≤ x3) →
      vp_in x3 48 ∧
      vp_in ((24 * x1) + x3) 1920 ∧
      ∀ S2, S2 = zup S 1132 ((24 * x1) + x3).toNatClampNeg (S 1136 x3.toNatClampNeg) →
      zW E l mX12_name d b A (rQ G Q) k 68 [some (.ref (zp 416 0)), some (.int x1), some (.int x2), some (.int (x3 + 1))] [] (zput G S2)))))
theorem rwpt_X12_name_68 {E : ZE} {l : Launch} {d b : Nat} {A G : ZG} {Q : Option Value → ZS9 → Prop} {k : Nat} {x1 : Int32} {x2 : Int32} {x3 : Int32} {S : ZS9} (hK : RK G) (h : rwp_X12_name_68 E l d b A G Q k x1 x2 x3 S) : zW E l mX12_name d b A (rQ G Q) k 68 [some (.ref (zp 416 0)), some (.int x1), some (.int x2), some (.int x3)] [] (zput G S) := by
  unfold rwp_X12_name_68 at h
  refine z_iload_n (pc' := 69) dX12_name_68 rfl rfl ?_
  refine z_bipush (x := 24) (pc' := 71) dX12_name_69 (by decide) rfl ?_
  refine z_icmp_ge (pt := 107) (pc' := 74) dX12_name_71 (by decide) rfl (fun hc => ?_) (fun hc => ?_)
  · have h := h.1 hc
    refine z_iload_n (pc' := 108) dX12_name_107 rfl rfl ?_
    exact z_iret dX12_name_108 rfl ⟨_, _, rfl, rfl, h⟩
  · have h := h.2 hc
    refine z_aload_n (pc' := 75) dX12_name_74 rfl rfl ?_
    refine r_getA (kf := 32) (pc' := 78) hK rt_32 dX12_name_75 kX12_64 rfl (by decide) (by decide) rfl ?_
    refine z_bipush (x := 24) (pc' := 80) dX12_name_78 (by decide) rfl ?_
    refine z_iload_n (pc' := 81) dX12_name_80 rfl rfl ?_
    refine z_imul (pc' := 82) dX12_name_81 rfl rfl ?_
    refine z_iload_n (pc' := 83) dX12_name_82 rfl rfl ?_
    refine z_iadd (pc' := 84) dX12_name_83 rfl rfl ?_
    refine z_iload_n (pc' := 85) dX12_name_84 rfl rfl ?_
    refine z_iload_n (pc' := 86) dX12_name_85 rfl rfl ?_
    refine z_icmp_ge (pt := 98) (pc' := 89) dX12_name_86 (by decide) rfl (fun hc => ?_) (fun hc => ?_)
    · have h := h.1 hc
      refine z_bipush (x := 60) (pc' := 100) dX12_name_98 (by decide) rfl ?_
      obtain ⟨h1, h⟩ := h
      obtain ⟨S1, hG⟩ : ∃ z, z = zup S 1132 ((24 * x1) + x3).toNatClampNeg 60 := ⟨_, rfl⟩
      have h := h _ hG
      refine r_iast (pc' := 101) hK rt_32 rfl dX12_name_100 rfl h1  ?_
      refine r_st hG ?_
      refine z_iinc (y := x3 + 1) (pc' := 104) dX12_name_101 rfl (zinc_1 _) (by decide) rfl ?_
      refine z_goto (pc' := 68) dX12_name_104 (by decide) ?_
      exact z_dr (ls' := [some (.ref (zp 416 0)), some (.int x1), some (.int x2), some (.int (x3 + 1))]) ⟨rfl, rfl, rfl, rfl, trivial⟩ h
    · have h := h.2 hc
      refine z_aload_n (pc' := 90) dX12_name_89 rfl rfl ?_
      refine r_getA (kf := 36) (pc' := 93) hK rt_36 dX12_name_90 kX12_73 rfl (by decide) (by decide) rfl ?_
      refine z_iload_n (pc' := 94) dX12_name_93 rfl rfl ?_
      obtain ⟨h1, h⟩ := h
      refine r_iald (pc' := 95) hK rt_36 rfl dX12_name_94 rfl h1 ?_
      refine z_goto (pc' := 100) dX12_name_95 (by decide) ?_
      obtain ⟨h1, h⟩ := h
      obtain ⟨S2, hG⟩ : ∃ z, z = zup S 1132 ((24 * x1) + x3).toNatClampNeg (S 1136 x3.toNatClampNeg) := ⟨_, rfl⟩
      have h := h _ hG
      refine r_iast (pc' := 101) hK rt_32 rfl dX12_name_100 rfl h1  ?_
      refine r_st hG ?_
      refine z_iinc (y := x3 + 1) (pc' := 104) dX12_name_101 rfl (zinc_1 _) (by decide) rfl ?_
      refine z_goto (pc' := 68) dX12_name_104 (by decide) ?_
      exact z_dr (ls' := [some (.ref (zp 416 0)), some (.int x1), some (.int x2), some (.int (x3 + 1))]) ⟨rfl, rfl, rfl, rfl, trivial⟩ h
def rwp_X12_noAsk_0 (E : ZE) (l : Launch) (d b : Nat) (A G : ZG) (Q : Option Value → ZS9 → Prop) (k : Nat) (x1 : Int32) (x2 : Int32) (S : ZS9) : Prop :=
  scI E l mX12_in d [.int x1, .int 0, .int 3] (fun y1 =>
  ((y1 = 0 →
    Q (some (.int 1)) S) ∧
  (¬ (y1 = 0) →
    scI E l mX12_in d [.int x2, .int (S 416 1), .int 1000] (fun y2 =>
    ((¬ y2 = 0 →
      Q (some (.int 0)) S) ∧
    (¬ (¬ y2 = 0) →
      Q (some (.int 1)) S))))))
theorem rwpt_X12_noAsk_0 {E : ZE} {l : Launch} {d b : Nat} {A G : ZG} {Q : Option Value → ZS9 → Prop} {k : Nat} {x1 : Int32} {x2 : Int32} {S : ZS9} (hK : RK G) (h : rwp_X12_noAsk_0 E l d b A G Q k x1 x2 S) : zW E l mX12_noAsk d b A (rQ G Q) k 0 [some (.ref (zp 416 0)), some (.int x1), some (.int x2)] [] (zput G S) := by
  unfold rwp_X12_noAsk_0 at h
  refine z_iload_n (pc' := 1) dX12_noAsk_0 rfl rfl ?_
  refine z_iconst (x := 0) (pc' := 2) dX12_noAsk_1 (by decide) rfl ?_
  refine z_iconst (x := 3) (pc' := 3) dX12_noAsk_2 (by decide) rfl ?_
  refine r_callSI (Y := mX12_in) (n := 3) (as := [.int x1, .int 0, .int 3]) (st := []) (pc' := 6) h dX12_noAsk_3 kX12_317 sX12_in rfl rfl (Nat.le_of_ble_eq_true rfl) (fun y1 h => ?_)
  refine z_if_eq (pt := 23) (pc' := 9) dX12_noAsk_6 (by decide) rfl (fun hc => ?_) (fun hc => ?_)
  · have h := h.1 hc
    refine z_iconst (x := 1) (pc' := 24) dX12_noAsk_23 (by decide) rfl ?_
    refine z_goto (pc' := 28) dX12_noAsk_24 (by decide) ?_
    exact z_zret (ty := .boolean) dX12_noAsk_28 rfl (by decide) ⟨_, _, rfl, rfl, h⟩
  · have h := h.2 hc
    refine z_iload_n (pc' := 10) dX12_noAsk_9 rfl rfl ?_
    refine z_aload_n (pc' := 11) dX12_noAsk_10 rfl rfl ?_
    refine r_getI (kf := 1) (pc' := 14) hK dX12_noAsk_11 kX12_314 rfl (by decide) (by decide) rfl ?_
    refine z_sipush (x := 1000) (pc' := 17) dX12_noAsk_14 (by decide) rfl ?_
    refine r_callSI (Y := mX12_in) (n := 3) (as := [.int x2, .int (S 416 1), .int 1000]) (st := []) (pc' := 20) h dX12_noAsk_17 kX12_317 sX12_in rfl rfl (Nat.le_of_ble_eq_true rfl) (fun y2 h => ?_)
    refine z_if_ne (pt := 27) (pc' := 23) dX12_noAsk_20 (by decide) rfl (fun hc => ?_) (fun hc => ?_)
    · have h := h.1 hc
      refine z_iconst (x := 0) (pc' := 28) dX12_noAsk_27 (by decide) rfl ?_
      exact z_zret (ty := .boolean) dX12_noAsk_28 rfl (by decide) ⟨_, _, rfl, rfl, h⟩
    · have h := h.2 hc
      refine z_iconst (x := 1) (pc' := 24) dX12_noAsk_23 (by decide) rfl ?_
      refine z_goto (pc' := 28) dX12_noAsk_24 (by decide) ?_
      exact z_zret (ty := .boolean) dX12_noAsk_28 rfl (by decide) ⟨_, _, rfl, rfl, h⟩
def rwp_X12_noAsking_0 (E : ZE) (l : Launch) (d b : Nat) (A G : ZG) (Q : Option Value → ZS9 → Prop) (k : Nat) (x1 : Int32) (S : ZS9) : Prop :=
  scI E l mX12_in d [.int x1, .int 0, .int ((S 416 66) - 1)] (fun y1 =>
  ((¬ y1 = 0 →
    Q (some (.int 0)) S) ∧
  (¬ (¬ y1 = 0) →
    Q (some (.int 1)) S)))
theorem rwpt_X12_noAsking_0 {E : ZE} {l : Launch} {d b : Nat} {A G : ZG} {Q : Option Value → ZS9 → Prop} {k : Nat} {x1 : Int32} {S : ZS9} (hK : RK G) (h : rwp_X12_noAsking_0 E l d b A G Q k x1 S) : zW E l mX12_noAsking d b A (rQ G Q) k 0 [some (.ref (zp 416 0)), some (.int x1)] [] (zput G S) := by
  unfold rwp_X12_noAsking_0 at h
  refine z_iload_n (pc' := 1) dX12_noAsking_0 rfl rfl ?_
  refine z_iconst (x := 0) (pc' := 2) dX12_noAsking_1 (by decide) rfl ?_
  refine z_aload_n (pc' := 3) dX12_noAsking_2 rfl rfl ?_
  refine r_getI (kf := 66) (pc' := 6) hK dX12_noAsking_3 kX12_412 rfl (by decide) (by decide) rfl ?_
  refine z_iconst (x := 1) (pc' := 7) dX12_noAsking_6 (by decide) rfl ?_
  refine z_isub (pc' := 8) dX12_noAsking_7 rfl rfl ?_
  refine r_callSI (Y := mX12_in) (n := 3) (as := [.int x1, .int 0, .int ((S 416 66) - 1)]) (st := []) (pc' := 11) h dX12_noAsking_8 kX12_317 sX12_in rfl rfl (Nat.le_of_ble_eq_true rfl) (fun y1 h => ?_)
  refine z_if_ne (pt := 18) (pc' := 14) dX12_noAsking_11 (by decide) rfl (fun hc => ?_) (fun hc => ?_)
  · have h := h.1 hc
    refine z_iconst (x := 0) (pc' := 19) dX12_noAsking_18 (by decide) rfl ?_
    exact z_zret (ty := .boolean) dX12_noAsking_19 rfl (by decide) ⟨_, _, rfl, rfl, h⟩
  · have h := h.2 hc
    refine z_iconst (x := 1) (pc' := 15) dX12_noAsking_14 (by decide) rfl ?_
    refine z_goto (pc' := 19) dX12_noAsking_15 (by decide) ?_
    exact z_zret (ty := .boolean) dX12_noAsking_19 rfl (by decide) ⟨_, _, rfl, rfl, h⟩
def rwp_X12_nobody_0 (E : ZE) (l : Launch) (d b : Nat) (A G : ZG) (Q : Option Value → ZS9 → Prop) (k : Nat) (x1 : Int32) (S : ZS9) : Prop :=
  scI E l mX12_in d [.int x1, .int 0, .int ((S 416 34) - 1)] (fun y1 =>
  ((¬ y1 = 0 →
    Q (some (.int 0)) S) ∧
  (¬ (¬ y1 = 0) →
    Q (some (.int 1)) S)))
theorem rwpt_X12_nobody_0 {E : ZE} {l : Launch} {d b : Nat} {A G : ZG} {Q : Option Value → ZS9 → Prop} {k : Nat} {x1 : Int32} {S : ZS9} (hK : RK G) (h : rwp_X12_nobody_0 E l d b A G Q k x1 S) : zW E l mX12_nobody d b A (rQ G Q) k 0 [some (.ref (zp 416 0)), some (.int x1)] [] (zput G S) := by
  unfold rwp_X12_nobody_0 at h
  refine z_iload_n (pc' := 1) dX12_nobody_0 rfl rfl ?_
  refine z_iconst (x := 0) (pc' := 2) dX12_nobody_1 (by decide) rfl ?_
  refine z_aload_n (pc' := 3) dX12_nobody_2 rfl rfl ?_
  refine r_getI (kf := 34) (pc' := 6) hK dX12_nobody_3 kX12_372 rfl (by decide) (by decide) rfl ?_
  refine z_iconst (x := 1) (pc' := 7) dX12_nobody_6 (by decide) rfl ?_
  refine z_isub (pc' := 8) dX12_nobody_7 rfl rfl ?_
  refine r_callSI (Y := mX12_in) (n := 3) (as := [.int x1, .int 0, .int ((S 416 34) - 1)]) (st := []) (pc' := 11) h dX12_nobody_8 kX12_317 sX12_in rfl rfl (Nat.le_of_ble_eq_true rfl) (fun y1 h => ?_)
  refine z_if_ne (pt := 18) (pc' := 14) dX12_nobody_11 (by decide) rfl (fun hc => ?_) (fun hc => ?_)
  · have h := h.1 hc
    refine z_iconst (x := 0) (pc' := 19) dX12_nobody_18 (by decide) rfl ?_
    exact z_zret (ty := .boolean) dX12_nobody_19 rfl (by decide) ⟨_, _, rfl, rfl, h⟩
  · have h := h.2 hc
    refine z_iconst (x := 1) (pc' := 15) dX12_nobody_14 (by decide) rfl ?_
    refine z_goto (pc' := 19) dX12_nobody_15 (by decide) ?_
    exact z_zret (ty := .boolean) dX12_nobody_19 rfl (by decide) ⟨_, _, rfl, rfl, h⟩
def rwp_X12_now_0 (E : ZE) (l : Launch) (d b : Nat) (A G : ZG) (Q : Option Value → ZS9 → Prop) (k : Nat) (x1 : Int32) (x2 : Int32) (S : ZS9) : Prop :=
  vp_in ((7 * x1) + x2) 840 ∧
  Q (some (.int (S 1165 ((7 * x1) + x2).toNatClampNeg))) S
theorem rwpt_X12_now_0 {E : ZE} {l : Launch} {d b : Nat} {A G : ZG} {Q : Option Value → ZS9 → Prop} {k : Nat} {x1 : Int32} {x2 : Int32} {S : ZS9} (hK : RK G) (h : rwp_X12_now_0 E l d b A G Q k x1 x2 S) : zW E l mX12_now d b A (rQ G Q) k 0 [some (.ref (zp 416 0)), some (.int x1), some (.int x2)] [] (zput G S) := by
  unfold rwp_X12_now_0 at h
  refine z_aload_n (pc' := 1) dX12_now_0 rfl rfl ?_
  refine r_getA (kf := 65) (pc' := 4) hK rt_65 dX12_now_1 kX12_148 rfl (by decide) (by decide) rfl ?_
  refine z_bipush (x := 7) (pc' := 6) dX12_now_4 (by decide) rfl ?_
  refine z_iload_n (pc' := 7) dX12_now_6 rfl rfl ?_
  refine z_imul (pc' := 8) dX12_now_7 rfl rfl ?_
  refine z_iload_n (pc' := 9) dX12_now_8 rfl rfl ?_
  refine z_iadd (pc' := 10) dX12_now_9 rfl rfl ?_
  obtain ⟨h1, h⟩ := h
  refine r_iald (pc' := 11) hK rt_65 rfl dX12_now_10 rfl h1 ?_
  exact z_iret dX12_now_11 rfl ⟨_, _, rfl, rfl, h⟩
def rwp_X12_number_0 (E : ZE) (l : Launch) (d b : Nat) (A G : ZG) (Q : Option Value → ZS9 → Prop) (k : Nat)  (S : ZS9) : Prop :=
  rcV E l mX12_blanksBetween d [] S k (fun S1 k2 =>
  zW E l mX12_number d b A (rQ G Q) k2 6 [some (.ref (zp 416 0)), some (.int 0)] [] (zput G S1))
theorem rwpt_X12_number_0 {E : ZE} {l : Launch} {d b : Nat} {A G : ZG} {Q : Option Value → ZS9 → Prop} {k : Nat}  {S : ZS9} (hK : RK G) (h : rwp_X12_number_0 E l d b A G Q k  S) : zW E l mX12_number d b A (rQ G Q) k 0 [some (.ref (zp 416 0)), none] [] (zput G S) := by
  unfold rwp_X12_number_0 at h
  refine z_aload_n (pc' := 1) dX12_number_0 rfl rfl ?_
  refine r_callV (Y := mX12_blanksBetween) (n := 0) (as := []) (st := []) (pc' := 4) h hK dX12_number_1 kX12_197 vX12_blanksBetween rfl rfl rfl (Nat.le_of_ble_eq_true rfl) (fun S1 k2 h => ?_)
  refine z_iconst (x := 0) (pc' := 5) dX12_number_4 (by decide) rfl ?_
  refine z_istore_n (pc' := 6) dX12_number_5 (by decide) rfl ?_
  exact z_dr (ls' := [some (.ref (zp 416 0)), some (.int 0)]) ⟨rfl, rfl, trivial⟩ h
def rwp_X12_number_6 (E : ZE) (l : Launch) (d b : Nat) (A G : ZG) (Q : Option Value → ZS9 → Prop) (k : Nat) (x1 : Int32) (S : ZS9) : Prop :=
  rcI E l mX12_isAt d [.int 48, .int 57] S k (fun y3 S1 k2 =>
  ((y3 = 0 →
    (((S1 416 4) = (S1 416 6) →
      Q (some (.int (-1))) S1) ∧
    (¬ ((S1 416 4) = (S1 416 6)) →
      ((((S1 416 4) - (S1 416 6)) ≤ 4 →
        Q (some (.int x1)) S1) ∧
      (¬ (((S1 416 4) - (S1 416 6)) ≤ 4) →
        Q (some (.int (-1))) S1))))) ∧
  (¬ (y3 = 0) →
    ((4 ≤ ((S1 416 4) - (S1 416 6)) →
      ∀ S4, S4 = zup S1 416 4 ((S1 416 4) + 1) →
      zW E l mX12_number d b A (rQ G Q) k2 6 [some (.ref (zp 416 0)), some (.int x1)] [] (zput G S4)) ∧
    (¬ (4 ≤ ((S1 416 4) - (S1 416 6))) →
      vp_in (S1 416 4) 400 ∧
      ∀ S5, S5 = zup S1 416 4 ((S1 416 4) + 1) →
      zW E l mX12_number d b A (rQ G Q) k2 6 [some (.ref (zp 416 0)), some (.int (((10 * x1) + (S1 1602 (S1 416 4).toNatClampNeg)) - 48))] [] (zput G S5))))))
theorem rwpt_X12_number_6 {E : ZE} {l : Launch} {d b : Nat} {A G : ZG} {Q : Option Value → ZS9 → Prop} {k : Nat} {x1 : Int32} {S : ZS9} (hK : RK G) (h : rwp_X12_number_6 E l d b A G Q k x1 S) : zW E l mX12_number d b A (rQ G Q) k 6 [some (.ref (zp 416 0)), some (.int x1)] [] (zput G S) := by
  unfold rwp_X12_number_6 at h
  refine z_aload_n (pc' := 7) dX12_number_6 rfl rfl ?_
  refine z_bipush (x := 48) (pc' := 9) dX12_number_7 (by decide) rfl ?_
  refine z_bipush (x := 57) (pc' := 11) dX12_number_9 (by decide) rfl ?_
  refine r_callI (Y := mX12_isAt) (n := 2) (as := [.int 48, .int 57]) (st := []) (pc' := 14) h hK dX12_number_11 kX12_190 vX12_isAt rfl rfl rfl (Nat.le_of_ble_eq_true rfl) (fun y3 S1 k2 h => ?_)
  refine z_if_eq (pt := 65) (pc' := 17) dX12_number_14 (by decide) rfl (fun hc => ?_) (fun hc => ?_)
  · have h := h.1 hc
    refine z_aload_n (pc' := 66) dX12_number_65 rfl rfl ?_
    refine r_getI (kf := 4) (pc' := 69) hK dX12_number_66 kX12_187 rfl (by decide) (by decide) rfl ?_
    refine z_aload_n (pc' := 70) dX12_number_69 rfl rfl ?_
    refine r_getI (kf := 6) (pc' := 73) hK dX12_number_70 kX12_194 rfl (by decide) (by decide) rfl ?_
    refine z_icmp_eq (pt := 89) (pc' := 76) dX12_number_73 (by decide) rfl (fun hc => ?_) (fun hc => ?_)
    · have h := h.1 hc
      refine z_iconst (x := (-1)) (pc' := 90) dX12_number_89 (by decide) rfl ?_
      refine z_goto (pc' := 94) dX12_number_90 (by decide) ?_
      exact z_iret dX12_number_94 rfl ⟨_, _, rfl, rfl, h⟩
    · have h := h.2 hc
      refine z_aload_n (pc' := 77) dX12_number_76 rfl rfl ?_
      refine r_getI (kf := 4) (pc' := 80) hK dX12_number_77 kX12_187 rfl (by decide) (by decide) rfl ?_
      refine z_aload_n (pc' := 81) dX12_number_80 rfl rfl ?_
      refine r_getI (kf := 6) (pc' := 84) hK dX12_number_81 kX12_194 rfl (by decide) (by decide) rfl ?_
      refine z_isub (pc' := 85) dX12_number_84 rfl rfl ?_
      refine z_iconst (x := 4) (pc' := 86) dX12_number_85 (by decide) rfl ?_
      refine z_icmp_le (pt := 93) (pc' := 89) dX12_number_86 (by decide) rfl (fun hc => ?_) (fun hc => ?_)
      · have h := h.1 hc
        refine z_iload_n (pc' := 94) dX12_number_93 rfl rfl ?_
        exact z_iret dX12_number_94 rfl ⟨_, _, rfl, rfl, h⟩
      · have h := h.2 hc
        refine z_iconst (x := (-1)) (pc' := 90) dX12_number_89 (by decide) rfl ?_
        refine z_goto (pc' := 94) dX12_number_90 (by decide) ?_
        exact z_iret dX12_number_94 rfl ⟨_, _, rfl, rfl, h⟩
  · have h := h.2 hc
    refine z_aload_n (pc' := 18) dX12_number_17 rfl rfl ?_
    refine r_getI (kf := 4) (pc' := 21) hK dX12_number_18 kX12_187 rfl (by decide) (by decide) rfl ?_
    refine z_aload_n (pc' := 22) dX12_number_21 rfl rfl ?_
    refine r_getI (kf := 6) (pc' := 25) hK dX12_number_22 kX12_194 rfl (by decide) (by decide) rfl ?_
    refine z_isub (pc' := 26) dX12_number_25 rfl rfl ?_
    refine z_iconst (x := 4) (pc' := 27) dX12_number_26 (by decide) rfl ?_
    refine z_icmp_ge (pt := 50) (pc' := 30) dX12_number_27 (by decide) rfl (fun hc => ?_) (fun hc => ?_)
    · have h := h.1 hc
      refine z_iload_n (pc' := 51) dX12_number_50 rfl rfl ?_
      refine z_istore_n (pc' := 52) dX12_number_51 (by decide) rfl ?_
      refine z_aload_n (pc' := 53) dX12_number_52 rfl rfl ?_
      refine z_dup (pc' := 54) dX12_number_53 rfl rfl ?_
      refine r_getI (kf := 4) (pc' := 57) hK dX12_number_54 kX12_187 rfl (by decide) (by decide) rfl ?_
      refine z_iconst (x := 1) (pc' := 58) dX12_number_57 (by decide) rfl ?_
      refine z_iadd (pc' := 59) dX12_number_58 rfl rfl ?_
      obtain ⟨S4, hG⟩ : ∃ z, z = zup S1 416 4 ((S1 416 4) + 1) := ⟨_, rfl⟩
      have h := h _ hG
      refine r_putI (kf := 4) (pc' := 62) hK dX12_number_59 kX12_187 rfl (by decide) (by decide) rfl rfl (zok_int _) ?_
      refine r_st hG ?_
      refine z_goto (pc' := 6) dX12_number_62 (by decide) ?_
      exact z_dr (ls' := [some (.ref (zp 416 0)), some (.int x1)]) ⟨rfl, rfl, trivial⟩ h
    · have h := h.2 hc
      refine z_bipush (x := 10) (pc' := 32) dX12_number_30 (by decide) rfl ?_
      refine z_iload_n (pc' := 33) dX12_number_32 rfl rfl ?_
      refine z_imul (pc' := 34) dX12_number_33 rfl rfl ?_
      refine z_aload_n (pc' := 35) dX12_number_34 rfl rfl ?_
      refine r_getA (kf := 2) (pc' := 38) hK rt_2 dX12_number_35 kX12_9 rfl (by decide) (by decide) rfl ?_
      refine z_aload_n (pc' := 39) dX12_number_38 rfl rfl ?_
      refine r_getI (kf := 4) (pc' := 42) hK dX12_number_39 kX12_187 rfl (by decide) (by decide) rfl ?_
      obtain ⟨h1, h⟩ := h
      refine r_bald (pc' := 43) hK rt_2 rfl dX12_number_42 rfl h1 ?_
      refine z_iadd (pc' := 44) dX12_number_43 rfl rfl ?_
      refine z_bipush (x := 48) (pc' := 46) dX12_number_44 (by decide) rfl ?_
      refine z_isub (pc' := 47) dX12_number_46 rfl rfl ?_
      refine z_goto (pc' := 51) dX12_number_47 (by decide) ?_
      refine z_istore_n (pc' := 52) dX12_number_51 (by decide) rfl ?_
      refine z_aload_n (pc' := 53) dX12_number_52 rfl rfl ?_
      refine z_dup (pc' := 54) dX12_number_53 rfl rfl ?_
      refine r_getI (kf := 4) (pc' := 57) hK dX12_number_54 kX12_187 rfl (by decide) (by decide) rfl ?_
      refine z_iconst (x := 1) (pc' := 58) dX12_number_57 (by decide) rfl ?_
      refine z_iadd (pc' := 59) dX12_number_58 rfl rfl ?_
      obtain ⟨S5, hG⟩ : ∃ z, z = zup S1 416 4 ((S1 416 4) + 1) := ⟨_, rfl⟩
      have h := h _ hG
      refine r_putI (kf := 4) (pc' := 62) hK dX12_number_59 kX12_187 rfl (by decide) (by decide) rfl rfl (zok_int _) ?_
      refine r_st hG ?_
      refine z_goto (pc' := 6) dX12_number_62 (by decide) ?_
      exact z_dr (ls' := [some (.ref (zp 416 0)), some (.int (((10 * x1) + (S1 1602 (S1 416 4).toNatClampNeg)) - 48))]) ⟨rfl, rfl, trivial⟩ h
def rwp_X12_order_0 (E : ZE) (l : Launch) (d b : Nat) (A G : ZG) (Q : Option Value → ZS9 → Prop) (k : Nat) (x1 : Int32) (S : ZS9) : Prop :=
  ∀ S1, S1 = zup S 416 0 0 →
  scI E l mX12_in d [.int x1, .int 0, .int 2] (fun y2 =>
  ((¬ y2 = 0 →
    rcI E l mX12_throwsIf d [.int 0, .int 1] S1 k (fun y5 S3 k4 =>
    ((y5 = 0 →
      ∀ S6, S6 = zup S3 416 42 x1 →
      Q none S6) ∧
    (¬ (y5 = 0) →
      Q none S3)))) ∧
  (¬ (¬ y2 = 0) →
    rcI E l mX12_throwsIf d [.int 1, .int 1] S1 k (fun y9 S7 k8 =>
    ((y9 = 0 →
      ∀ S10, S10 = zup S7 416 42 x1 →
      Q none S10) ∧
    (¬ (y9 = 0) →
      Q none S7))))))
theorem rwpt_X12_order_0 {E : ZE} {l : Launch} {d b : Nat} {A G : ZG} {Q : Option Value → ZS9 → Prop} {k : Nat} {x1 : Int32} {S : ZS9} (hK : RK G) (h : rwp_X12_order_0 E l d b A G Q k x1 S) : zW E l mX12_order d b A (rQ G Q) k 0 [some (.ref (zp 416 0)), some (.int x1)] [] (zput G S) := by
  unfold rwp_X12_order_0 at h
  refine z_aload_n (pc' := 1) dX12_order_0 rfl rfl ?_
  refine z_iconst (x := 0) (pc' := 2) dX12_order_1 (by decide) rfl ?_
  obtain ⟨S1, hG⟩ : ∃ z, z = zup S 416 0 0 := ⟨_, rfl⟩
  have h := h _ hG
  refine r_putI (kf := 0) (pc' := 5) hK dX12_order_2 kX12_178 rfl (by decide) (by decide) rfl rfl (zok_int _) ?_
  refine r_st hG ?_
  refine z_aload_n (pc' := 6) dX12_order_5 rfl rfl ?_
  refine z_iload_n (pc' := 7) dX12_order_6 rfl rfl ?_
  refine z_iconst (x := 0) (pc' := 8) dX12_order_7 (by decide) rfl ?_
  refine z_iconst (x := 2) (pc' := 9) dX12_order_8 (by decide) rfl ?_
  refine r_callSI (Y := mX12_in) (n := 3) (as := [.int x1, .int 0, .int 2]) (st := [.ref (zp 416 0)]) (pc' := 12) h dX12_order_9 kX12_317 sX12_in rfl rfl (Nat.le_of_ble_eq_true rfl) (fun y2 h => ?_)
  refine z_if_ne (pt := 19) (pc' := 15) dX12_order_12 (by decide) rfl (fun hc => ?_) (fun hc => ?_)
  · have h := h.1 hc
    refine z_iconst (x := 0) (pc' := 20) dX12_order_19 (by decide) rfl ?_
    refine z_iconst (x := 1) (pc' := 21) dX12_order_20 (by decide) rfl ?_
    refine r_callI (Y := mX12_throwsIf) (n := 2) (as := [.int 0, .int 1]) (st := []) (pc' := 24) h hK dX12_order_21 kX12_321 vX12_throwsIf rfl rfl rfl (Nat.le_of_ble_eq_true rfl) (fun y5 S3 k4 h => ?_)
    refine z_if_eq (pt := 28) (pc' := 27) dX12_order_24 (by decide) rfl (fun hc => ?_) (fun hc => ?_)
    · have h := h.1 hc
      refine z_aload_n (pc' := 29) dX12_order_28 rfl rfl ?_
      refine z_iload_n (pc' := 30) dX12_order_29 rfl rfl ?_
      obtain ⟨S6, hG⟩ : ∃ z, z = zup S3 416 42 x1 := ⟨_, rfl⟩
      have h := h _ hG
      refine r_putI (kf := 42) (pc' := 33) hK dX12_order_30 kX12_403 rfl (by decide) (by decide) rfl rfl (zok_int _) ?_
      refine r_st hG ?_
      exact z_vret dX12_order_33 rfl ⟨_, _, rfl, rfl, h⟩
    · have h := h.2 hc
      exact z_vret dX12_order_27 rfl ⟨_, _, rfl, rfl, h⟩
  · have h := h.2 hc
    refine z_iconst (x := 1) (pc' := 16) dX12_order_15 (by decide) rfl ?_
    refine z_goto (pc' := 20) dX12_order_16 (by decide) ?_
    refine z_iconst (x := 1) (pc' := 21) dX12_order_20 (by decide) rfl ?_
    refine r_callI (Y := mX12_throwsIf) (n := 2) (as := [.int 1, .int 1]) (st := []) (pc' := 24) h hK dX12_order_21 kX12_321 vX12_throwsIf rfl rfl rfl (Nat.le_of_ble_eq_true rfl) (fun y9 S7 k8 h => ?_)
    refine z_if_eq (pt := 28) (pc' := 27) dX12_order_24 (by decide) rfl (fun hc => ?_) (fun hc => ?_)
    · have h := h.1 hc
      refine z_aload_n (pc' := 29) dX12_order_28 rfl rfl ?_
      refine z_iload_n (pc' := 30) dX12_order_29 rfl rfl ?_
      obtain ⟨S10, hG⟩ : ∃ z, z = zup S7 416 42 x1 := ⟨_, rfl⟩
      have h := h _ hG
      refine r_putI (kf := 42) (pc' := 33) hK dX12_order_30 kX12_403 rfl (by decide) (by decide) rfl rfl (zok_int _) ?_
      refine r_st hG ?_
      exact z_vret dX12_order_33 rfl ⟨_, _, rfl, rfl, h⟩
    · have h := h.2 hc
      exact z_vret dX12_order_27 rfl ⟨_, _, rfl, rfl, h⟩
def rwp_X12_passes_0 (E : ZE) (l : Launch) (d b : Nat) (A G : ZG) (Q : Option Value → ZS9 → Prop) (k : Nat) (q1 : Nat) (S : ZS9) : Prop :=
  rcV E l mX12_word d [] S k (fun S1 k2 =>
  rcI E l mX12_isWord d [.ref q1] S1 k2 (fun y5 S3 k4 =>
  ((y5 = 0 →
    ∀ S6, S6 = zup S3 416 4 (S3 416 6) →
    Q (some (.int 0)) S6) ∧
  (¬ (y5 = 0) →
    Q (some (.int 1)) S3))))
theorem rwpt_X12_passes_0 {E : ZE} {l : Launch} {d b : Nat} {A G : ZG} {Q : Option Value → ZS9 → Prop} {k : Nat} {q1 : Nat} {S : ZS9} (hK : RK G) (h : rwp_X12_passes_0 E l d b A G Q k q1 S) : zW E l mX12_passes d b A (rQ G Q) k 0 [some (.ref (zp 416 0)), some (.ref q1)] [] (zput G S) := by
  unfold rwp_X12_passes_0 at h
  refine z_aload_n (pc' := 1) dX12_passes_0 rfl rfl ?_
  refine r_callV (Y := mX12_word) (n := 0) (as := []) (st := []) (pc' := 4) h hK dX12_passes_1 kX12_210 vX12_word rfl rfl rfl (Nat.le_of_ble_eq_true rfl) (fun S1 k2 h => ?_)
  refine z_aload_n (pc' := 5) dX12_passes_4 rfl rfl ?_
  refine z_aload_n (pc' := 6) dX12_passes_5 rfl rfl ?_
  refine r_callI (Y := mX12_isWord) (n := 1) (as := [.ref q1]) (st := []) (pc' := 9) h hK dX12_passes_6 kX12_213 vX12_isWord rfl rfl rfl (Nat.le_of_ble_eq_true rfl) (fun y5 S3 k4 h => ?_)
  refine z_if_eq (pt := 14) (pc' := 12) dX12_passes_9 (by decide) rfl (fun hc => ?_) (fun hc => ?_)
  · have h := h.1 hc
    refine z_aload_n (pc' := 15) dX12_passes_14 rfl rfl ?_
    refine z_aload_n (pc' := 16) dX12_passes_15 rfl rfl ?_
    refine r_getI (kf := 6) (pc' := 19) hK dX12_passes_16 kX12_194 rfl (by decide) (by decide) rfl ?_
    obtain ⟨S6, hG⟩ : ∃ z, z = zup S3 416 4 (S3 416 6) := ⟨_, rfl⟩
    have h := h _ hG
    refine r_putI (kf := 4) (pc' := 22) hK dX12_passes_19 kX12_187 rfl (by decide) (by decide) rfl rfl (zok_int _) ?_
    refine r_st hG ?_
    refine z_iconst (x := 0) (pc' := 23) dX12_passes_22 (by decide) rfl ?_
    exact z_zret (ty := .boolean) dX12_passes_23 rfl (by decide) ⟨_, _, rfl, rfl, h⟩
  · have h := h.2 hc
    refine z_iconst (x := 1) (pc' := 13) dX12_passes_12 (by decide) rfl ?_
    exact z_zret (ty := .boolean) dX12_passes_13 rfl (by decide) ⟨_, _, rfl, rfl, h⟩
def rwp_X12_passesSign_0 (E : ZE) (l : Launch) (d b : Nat) (A G : ZG) (Q : Option Value → ZS9 → Prop) (k : Nat) (x1 : Int32) (S : ZS9) : Prop :=
  rcV E l mX12_blanksBetween d [] S k (fun S1 k2 =>
  rcI E l mX12_isAt d [.int x1, .int x1] S1 k2 (fun y5 S3 k4 =>
  ((¬ y5 = 0 →
    ∀ S6, S6 = zup S3 416 4 ((S3 416 4) + 1) →
    Q (some (.int 1)) S6) ∧
  (¬ (¬ y5 = 0) →
    Q (some (.int 0)) S3))))
theorem rwpt_X12_passesSign_0 {E : ZE} {l : Launch} {d b : Nat} {A G : ZG} {Q : Option Value → ZS9 → Prop} {k : Nat} {x1 : Int32} {S : ZS9} (hK : RK G) (h : rwp_X12_passesSign_0 E l d b A G Q k x1 S) : zW E l mX12_passesSign d b A (rQ G Q) k 0 [some (.ref (zp 416 0)), some (.int x1)] [] (zput G S) := by
  unfold rwp_X12_passesSign_0 at h
  refine z_aload_n (pc' := 1) dX12_passesSign_0 rfl rfl ?_
  refine r_callV (Y := mX12_blanksBetween) (n := 0) (as := []) (st := []) (pc' := 4) h hK dX12_passesSign_1 kX12_197 vX12_blanksBetween rfl rfl rfl (Nat.le_of_ble_eq_true rfl) (fun S1 k2 h => ?_)
  refine z_aload_n (pc' := 5) dX12_passesSign_4 rfl rfl ?_
  refine z_iload_n (pc' := 6) dX12_passesSign_5 rfl rfl ?_
  refine z_iload_n (pc' := 7) dX12_passesSign_6 rfl rfl ?_
  refine r_callI (Y := mX12_isAt) (n := 2) (as := [.int x1, .int x1]) (st := []) (pc' := 10) h hK dX12_passesSign_7 kX12_190 vX12_isAt rfl rfl rfl (Nat.le_of_ble_eq_true rfl) (fun y5 S3 k4 h => ?_)
  refine z_if_ne (pt := 15) (pc' := 13) dX12_passesSign_10 (by decide) rfl (fun hc => ?_) (fun hc => ?_)
  · have h := h.1 hc
    refine z_aload_n (pc' := 16) dX12_passesSign_15 rfl rfl ?_
    refine z_dup (pc' := 17) dX12_passesSign_16 rfl rfl ?_
    refine r_getI (kf := 4) (pc' := 20) hK dX12_passesSign_17 kX12_187 rfl (by decide) (by decide) rfl ?_
    refine z_iconst (x := 1) (pc' := 21) dX12_passesSign_20 (by decide) rfl ?_
    refine z_iadd (pc' := 22) dX12_passesSign_21 rfl rfl ?_
    obtain ⟨S6, hG⟩ : ∃ z, z = zup S3 416 4 ((S3 416 4) + 1) := ⟨_, rfl⟩
    have h := h _ hG
    refine r_putI (kf := 4) (pc' := 25) hK dX12_passesSign_22 kX12_187 rfl (by decide) (by decide) rfl rfl (zok_int _) ?_
    refine r_st hG ?_
    refine z_iconst (x := 1) (pc' := 26) dX12_passesSign_25 (by decide) rfl ?_
    exact z_zret (ty := .boolean) dX12_passesSign_26 rfl (by decide) ⟨_, _, rfl, rfl, h⟩
  · have h := h.2 hc
    refine z_iconst (x := 0) (pc' := 14) dX12_passesSign_13 (by decide) rfl ?_
    exact z_zret (ty := .boolean) dX12_passesSign_14 rfl (by decide) ⟨_, _, rfl, rfl, h⟩
def rwp_X12_person_0 (E : ZE) (l : Launch) (d b : Nat) (A G : ZG) (Q : Option Value → ZS9 → Prop) (k : Nat) (x1 : Int32) (x2 : Int32) (x3 : Int32) (x4 : Int32) (x5 : Int32) (x6 : Int32) (x7 : Int32) (S : ZS9) : Prop :=
  ∀ S1, S1 = zup S 416 0 0 →
  scI E l mX12_in d [.int x1, .int (-40000), .int (S1 416 1)] (fun y2 =>
  ((y2 = 0 →
    zW E l mX12_person d b A (rQ G Q) k 64 [some (.ref (zp 416 0)), some (.int x1), some (.int x2), some (.int x3), some (.int x4), some (.int x5), some (.int x6), some (.int x7)] [.int 1, .ref (zp 416 0)] (zput G S1)) ∧
  (¬ (y2 = 0) →
    scI E l mX12_noFace d [.int x3] (fun y3 =>
    ((¬ y3 = 0 →
      zW E l mX12_person d b A (rQ G Q) k 64 [some (.ref (zp 416 0)), some (.int x1), some (.int x2), some (.int x3), some (.int x4), some (.int x5), some (.int x6), some (.int x7)] [.int 1, .ref (zp 416 0)] (zput G S1)) ∧
    (¬ (¬ y3 = 0) →
      scI E l mX12_noFace d [.int x4] (fun y4 =>
      ((¬ y4 = 0 →
        zW E l mX12_person d b A (rQ G Q) k 64 [some (.ref (zp 416 0)), some (.int x1), some (.int x2), some (.int x3), some (.int x4), some (.int x5), some (.int x6), some (.int x7)] [.int 1, .ref (zp 416 0)] (zput G S1)) ∧
      (¬ (¬ y4 = 0) →
        scI E l mX12_noFace d [.int x5] (fun y5 =>
        ((¬ y5 = 0 →
          zW E l mX12_person d b A (rQ G Q) k 64 [some (.ref (zp 416 0)), some (.int x1), some (.int x2), some (.int x3), some (.int x4), some (.int x5), some (.int x6), some (.int x7)] [.int 1, .ref (zp 416 0)] (zput G S1)) ∧
        (¬ (¬ y5 = 0) →
          scI E l mX12_noFace d [.int x6] (fun y6 =>
          ((¬ y6 = 0 →
            zW E l mX12_person d b A (rQ G Q) k 64 [some (.ref (zp 416 0)), some (.int x1), some (.int x2), some (.int x3), some (.int x4), some (.int x5), some (.int x6), some (.int x7)] [.int 1, .ref (zp 416 0)] (zput G S1)) ∧
          (¬ (¬ y6 = 0) →
            scI E l mX12_noFace d [.int x7] (fun y7 =>
            ((y7 = 0 →
              zW E l mX12_person d b A (rQ G Q) k 64 [some (.ref (zp 416 0)), some (.int x1), some (.int x2), some (.int x3), some (.int x4), some (.int x5), some (.int x6), some (.int x7)] [.int 0, .ref (zp 416 0)] (zput G S1)) ∧
            (¬ (y7 = 0) →
              zW E l mX12_person d b A (rQ G Q) k 64 [some (.ref (zp 416 0)), some (.int x1), some (.int x2), some (.int x3), some (.int x4), some (.int x5), some (.int x6), some (.int x7)] [.int 1, .ref (zp 416 0)] (zput G S1)))))))))))))))))))
theorem rwpt_X12_person_0 {E : ZE} {l : Launch} {d b : Nat} {A G : ZG} {Q : Option Value → ZS9 → Prop} {k : Nat} {x1 : Int32} {x2 : Int32} {x3 : Int32} {x4 : Int32} {x5 : Int32} {x6 : Int32} {x7 : Int32} {S : ZS9} (hK : RK G) (h : rwp_X12_person_0 E l d b A G Q k x1 x2 x3 x4 x5 x6 x7 S) : zW E l mX12_person d b A (rQ G Q) k 0 [some (.ref (zp 416 0)), some (.int x1), some (.int x2), some (.int x3), some (.int x4), some (.int x5), some (.int x6), some (.int x7)] [] (zput G S) := by
  unfold rwp_X12_person_0 at h
  refine z_aload_n (pc' := 1) dX12_person_0 rfl rfl ?_
  refine z_iconst (x := 0) (pc' := 2) dX12_person_1 (by decide) rfl ?_
  obtain ⟨S1, hG⟩ : ∃ z, z = zup S 416 0 0 := ⟨_, rfl⟩
  have h := h _ hG
  refine r_putI (kf := 0) (pc' := 5) hK dX12_person_2 kX12_178 rfl (by decide) (by decide) rfl rfl (zok_int _) ?_
  refine r_st hG ?_
  refine z_aload_n (pc' := 6) dX12_person_5 rfl rfl ?_
  refine z_iload_n (pc' := 7) dX12_person_6 rfl rfl ?_
  refine z_ldcw (x := (-40000)) (pc' := 10) dX12_person_7 kX12_375 rfl ?_
  refine z_aload_n (pc' := 11) dX12_person_10 rfl rfl ?_
  refine r_getI (kf := 1) (pc' := 14) hK dX12_person_11 kX12_314 rfl (by decide) (by decide) rfl ?_
  refine r_callSI (Y := mX12_in) (n := 3) (as := [.int x1, .int (-40000), .int (S1 416 1)]) (st := [.ref (zp 416 0)]) (pc' := 17) h dX12_person_14 kX12_317 sX12_in rfl rfl (Nat.le_of_ble_eq_true rfl) (fun y2 h => ?_)
  refine z_if_eq (pt := 59) (pc' := 20) dX12_person_17 (by decide) rfl (fun hc => ?_) (fun hc => ?_)
  · have h := h.1 hc
    refine z_iconst (x := 1) (pc' := 60) dX12_person_59 (by decide) rfl ?_
    refine z_goto (pc' := 64) dX12_person_60 (by decide) ?_
    exact z_dr (ls' := [some (.ref (zp 416 0)), some (.int x1), some (.int x2), some (.int x3), some (.int x4), some (.int x5), some (.int x6), some (.int x7)]) ⟨rfl, rfl, rfl, rfl, rfl, rfl, rfl, rfl, trivial⟩ h
  · have h := h.2 hc
    refine z_iload_n (pc' := 21) dX12_person_20 rfl rfl ?_
    refine r_callSI (Y := mX12_noFace) (n := 1) (as := [.int x3]) (st := [.ref (zp 416 0)]) (pc' := 24) h dX12_person_21 kX12_376 sX12_noFace rfl rfl (Nat.le_of_ble_eq_true rfl) (fun y3 h => ?_)
    refine z_if_ne (pt := 59) (pc' := 27) dX12_person_24 (by decide) rfl (fun hc => ?_) (fun hc => ?_)
    · have h := h.1 hc
      refine z_iconst (x := 1) (pc' := 60) dX12_person_59 (by decide) rfl ?_
      refine z_goto (pc' := 64) dX12_person_60 (by decide) ?_
      exact z_dr (ls' := [some (.ref (zp 416 0)), some (.int x1), some (.int x2), some (.int x3), some (.int x4), some (.int x5), some (.int x6), some (.int x7)]) ⟨rfl, rfl, rfl, rfl, rfl, rfl, rfl, rfl, trivial⟩ h
    · have h := h.2 hc
      refine z_iload (pc' := 29) dX12_person_27 rfl rfl ?_
      refine r_callSI (Y := mX12_noFace) (n := 1) (as := [.int x4]) (st := [.ref (zp 416 0)]) (pc' := 32) h dX12_person_29 kX12_376 sX12_noFace rfl rfl (Nat.le_of_ble_eq_true rfl) (fun y4 h => ?_)
      refine z_if_ne (pt := 59) (pc' := 35) dX12_person_32 (by decide) rfl (fun hc => ?_) (fun hc => ?_)
      · have h := h.1 hc
        refine z_iconst (x := 1) (pc' := 60) dX12_person_59 (by decide) rfl ?_
        refine z_goto (pc' := 64) dX12_person_60 (by decide) ?_
        exact z_dr (ls' := [some (.ref (zp 416 0)), some (.int x1), some (.int x2), some (.int x3), some (.int x4), some (.int x5), some (.int x6), some (.int x7)]) ⟨rfl, rfl, rfl, rfl, rfl, rfl, rfl, rfl, trivial⟩ h
      · have h := h.2 hc
        refine z_iload (pc' := 37) dX12_person_35 rfl rfl ?_
        refine r_callSI (Y := mX12_noFace) (n := 1) (as := [.int x5]) (st := [.ref (zp 416 0)]) (pc' := 40) h dX12_person_37 kX12_376 sX12_noFace rfl rfl (Nat.le_of_ble_eq_true rfl) (fun y5 h => ?_)
        refine z_if_ne (pt := 59) (pc' := 43) dX12_person_40 (by decide) rfl (fun hc => ?_) (fun hc => ?_)
        · have h := h.1 hc
          refine z_iconst (x := 1) (pc' := 60) dX12_person_59 (by decide) rfl ?_
          refine z_goto (pc' := 64) dX12_person_60 (by decide) ?_
          exact z_dr (ls' := [some (.ref (zp 416 0)), some (.int x1), some (.int x2), some (.int x3), some (.int x4), some (.int x5), some (.int x6), some (.int x7)]) ⟨rfl, rfl, rfl, rfl, rfl, rfl, rfl, rfl, trivial⟩ h
        · have h := h.2 hc
          refine z_iload (pc' := 45) dX12_person_43 rfl rfl ?_
          refine r_callSI (Y := mX12_noFace) (n := 1) (as := [.int x6]) (st := [.ref (zp 416 0)]) (pc' := 48) h dX12_person_45 kX12_376 sX12_noFace rfl rfl (Nat.le_of_ble_eq_true rfl) (fun y6 h => ?_)
          refine z_if_ne (pt := 59) (pc' := 51) dX12_person_48 (by decide) rfl (fun hc => ?_) (fun hc => ?_)
          · have h := h.1 hc
            refine z_iconst (x := 1) (pc' := 60) dX12_person_59 (by decide) rfl ?_
            refine z_goto (pc' := 64) dX12_person_60 (by decide) ?_
            exact z_dr (ls' := [some (.ref (zp 416 0)), some (.int x1), some (.int x2), some (.int x3), some (.int x4), some (.int x5), some (.int x6), some (.int x7)]) ⟨rfl, rfl, rfl, rfl, rfl, rfl, rfl, rfl, trivial⟩ h
          · have h := h.2 hc
            refine z_iload (pc' := 53) dX12_person_51 rfl rfl ?_
            refine r_callSI (Y := mX12_noFace) (n := 1) (as := [.int x7]) (st := [.ref (zp 416 0)]) (pc' := 56) h dX12_person_53 kX12_376 sX12_noFace rfl rfl (Nat.le_of_ble_eq_true rfl) (fun y7 h => ?_)
            refine z_if_eq (pt := 63) (pc' := 59) dX12_person_56 (by decide) rfl (fun hc => ?_) (fun hc => ?_)
            · have h := h.1 hc
              refine z_iconst (x := 0) (pc' := 64) dX12_person_63 (by decide) rfl ?_
              exact z_dr (ls' := [some (.ref (zp 416 0)), some (.int x1), some (.int x2), some (.int x3), some (.int x4), some (.int x5), some (.int x6), some (.int x7)]) ⟨rfl, rfl, rfl, rfl, rfl, rfl, rfl, rfl, trivial⟩ h
            · have h := h.2 hc
              refine z_iconst (x := 1) (pc' := 60) dX12_person_59 (by decide) rfl ?_
              refine z_goto (pc' := 64) dX12_person_60 (by decide) ?_
              exact z_dr (ls' := [some (.ref (zp 416 0)), some (.int x1), some (.int x2), some (.int x3), some (.int x4), some (.int x5), some (.int x6), some (.int x7)]) ⟨rfl, rfl, rfl, rfl, rfl, rfl, rfl, rfl, trivial⟩ h
def rwp_X12_person_64 (E : ZE) (l : Launch) (d b : Nat) (A G : ZG) (Q : Option Value → ZS9 → Prop) (k : Nat) (x1 : Int32) (x2 : Int32) (x3 : Int32) (x4 : Int32) (x5 : Int32) (x6 : Int32) (x7 : Int32) (s0 : Int32) (S : ZS9) : Prop :=
  rcI E l mX12_throwsIf d [.int s0, .int 1] S k (fun y3 S1 k2 =>
  ((¬ y3 = 0 →
    Q (some (.int 0)) S1) ∧
  (¬ (¬ y3 = 0) →
    ((¬ (S1 416 34) = 80 →
      zW E l mX12_person d b A (rQ G Q) k2 86 [some (.ref (zp 416 0)), some (.int x1), some (.int x2), some (.int x3), some (.int x4), some (.int x5), some (.int x6), some (.int x7)] [.int 0, .ref (zp 416 0)] (zput G S1)) ∧
    (¬ (¬ (S1 416 34) = 80) →
      zW E l mX12_person d b A (rQ G Q) k2 86 [some (.ref (zp 416 0)), some (.int x1), some (.int x2), some (.int x3), some (.int x4), some (.int x5), some (.int x6), some (.int x7)] [.int 1, .ref (zp 416 0)] (zput G S1))))))
theorem rwpt_X12_person_64 {E : ZE} {l : Launch} {d b : Nat} {A G : ZG} {Q : Option Value → ZS9 → Prop} {k : Nat} {x1 : Int32} {x2 : Int32} {x3 : Int32} {x4 : Int32} {x5 : Int32} {x6 : Int32} {x7 : Int32} {s0 : Int32} {S : ZS9} (hK : RK G) (h : rwp_X12_person_64 E l d b A G Q k x1 x2 x3 x4 x5 x6 x7 s0 S) : zW E l mX12_person d b A (rQ G Q) k 64 [some (.ref (zp 416 0)), some (.int x1), some (.int x2), some (.int x3), some (.int x4), some (.int x5), some (.int x6), some (.int x7)] [.int s0, .ref (zp 416 0)] (zput G S) := by
  unfold rwp_X12_person_64 at h
  refine z_iconst (x := 1) (pc' := 65) dX12_person_64 (by decide) rfl ?_
  refine r_callI (Y := mX12_throwsIf) (n := 2) (as := [.int s0, .int 1]) (st := []) (pc' := 68) h hK dX12_person_65 kX12_321 vX12_throwsIf rfl rfl rfl (Nat.le_of_ble_eq_true rfl) (fun y3 S1 k2 h => ?_)
  refine z_if_ne (pt := 93) (pc' := 71) dX12_person_68 (by decide) rfl (fun hc => ?_) (fun hc => ?_)
  · have h := h.1 hc
    refine z_iconst (x := 0) (pc' := 94) dX12_person_93 (by decide) rfl ?_
    exact z_iret dX12_person_94 rfl ⟨_, _, rfl, rfl, h⟩
  · have h := h.2 hc
    refine z_aload_n (pc' := 72) dX12_person_71 rfl rfl ?_
    refine z_aload_n (pc' := 73) dX12_person_72 rfl rfl ?_
    refine r_getI (kf := 34) (pc' := 76) hK dX12_person_73 kX12_372 rfl (by decide) (by decide) rfl ?_
    refine z_bipush (x := 80) (pc' := 78) dX12_person_76 (by decide) rfl ?_
    refine z_icmp_ne (pt := 85) (pc' := 81) dX12_person_78 (by decide) rfl (fun hc => ?_) (fun hc => ?_)
    · have h := h.1 hc
      refine z_iconst (x := 0) (pc' := 86) dX12_person_85 (by decide) rfl ?_
      exact z_dr (ls' := [some (.ref (zp 416 0)), some (.int x1), some (.int x2), some (.int x3), some (.int x4), some (.int x5), some (.int x6), some (.int x7)]) ⟨rfl, rfl, rfl, rfl, rfl, rfl, rfl, rfl, trivial⟩ h
    · have h := h.2 hc
      refine z_iconst (x := 1) (pc' := 82) dX12_person_81 (by decide) rfl ?_
      refine z_goto (pc' := 86) dX12_person_82 (by decide) ?_
      exact z_dr (ls' := [some (.ref (zp 416 0)), some (.int x1), some (.int x2), some (.int x3), some (.int x4), some (.int x5), some (.int x6), some (.int x7)]) ⟨rfl, rfl, rfl, rfl, rfl, rfl, rfl, rfl, trivial⟩ h
def rwp_X12_person_86 (E : ZE) (l : Launch) (d b : Nat) (A G : ZG) (Q : Option Value → ZS9 → Prop) (k : Nat) (x1 : Int32) (x2 : Int32) (x3 : Int32) (x4 : Int32) (x5 : Int32) (x6 : Int32) (x7 : Int32) (s0 : Int32) (S : ZS9) : Prop :=
  rcI E l mX12_throwsIf d [.int s0, .int 2] S k (fun y3 S1 k2 =>
  ((y3 = 0 →
    vp_in (S1 416 34) 80 ∧
    ∀ S4, S4 = zup S1 1129 (S1 416 34).toNatClampNeg x1 →
    vp_in (S4 416 34) 80 ∧
    zok .boolean x2 ∧
    ∀ S5, S5 = zup S4 2130 (S4 416 34).toNatClampNeg x2 →
    vp_in (5 * (S5 416 34)) 400 ∧
    ∀ S6, S6 = zup S5 1131 (5 * (S5 416 34)).toNatClampNeg x3 →
    vp_in ((5 * (S6 416 34)) + 1) 400 ∧
    ∀ S7, S7 = zup S6 1131 ((5 * (S6 416 34)) + 1).toNatClampNeg x4 →
    vp_in ((5 * (S7 416 34)) + 2) 400 ∧
    ∀ S8, S8 = zup S7 1131 ((5 * (S7 416 34)) + 2).toNatClampNeg x5 →
    vp_in ((5 * (S8 416 34)) + 3) 400 ∧
    ∀ S9, S9 = zup S8 1131 ((5 * (S8 416 34)) + 3).toNatClampNeg x6 →
    vp_in ((5 * (S9 416 34)) + 4) 400 ∧
    ∀ S10, S10 = zup S9 1131 ((5 * (S9 416 34)) + 4).toNatClampNeg x7 →
    ∀ S11, S11 = zup S10 416 34 ((S10 416 34) + 1) →
    Q (some (.int ((S11 416 34) - 1))) S11) ∧
  (¬ (y3 = 0) →
    Q (some (.int 0)) S1)))
theorem rwpt_X12_person_86 {E : ZE} {l : Launch} {d b : Nat} {A G : ZG} {Q : Option Value → ZS9 → Prop} {k : Nat} {x1 : Int32} {x2 : Int32} {x3 : Int32} {x4 : Int32} {x5 : Int32} {x6 : Int32} {x7 : Int32} {s0 : Int32} {S : ZS9} (hK : RK G) (h : rwp_X12_person_86 E l d b A G Q k x1 x2 x3 x4 x5 x6 x7 s0 S) : zW E l mX12_person d b A (rQ G Q) k 86 [some (.ref (zp 416 0)), some (.int x1), some (.int x2), some (.int x3), some (.int x4), some (.int x5), some (.int x6), some (.int x7)] [.int s0, .ref (zp 416 0)] (zput G S) := by
  unfold rwp_X12_person_86 at h
  refine z_iconst (x := 2) (pc' := 87) dX12_person_86 (by decide) rfl ?_
  refine r_callI (Y := mX12_throwsIf) (n := 2) (as := [.int s0, .int 2]) (st := []) (pc' := 90) h hK dX12_person_87 kX12_321 vX12_throwsIf rfl rfl rfl (Nat.le_of_ble_eq_true rfl) (fun y3 S1 k2 h => ?_)
  refine z_if_eq (pt := 95) (pc' := 93) dX12_person_90 (by decide) rfl (fun hc => ?_) (fun hc => ?_)
  · have h := h.1 hc
    refine z_aload_n (pc' := 96) dX12_person_95 rfl rfl ?_
    refine r_getA (kf := 29) (pc' := 99) hK rt_29 dX12_person_96 kX12_55 rfl (by decide) (by decide) rfl ?_
    refine z_aload_n (pc' := 100) dX12_person_99 rfl rfl ?_
    refine r_getI (kf := 34) (pc' := 103) hK dX12_person_100 kX12_372 rfl (by decide) (by decide) rfl ?_
    refine z_iload_n (pc' := 104) dX12_person_103 rfl rfl ?_
    obtain ⟨h1, h⟩ := h
    obtain ⟨S4, hG⟩ : ∃ z, z = zup S1 1129 (S1 416 34).toNatClampNeg x1 := ⟨_, rfl⟩
    have h := h _ hG
    refine r_iast (pc' := 105) hK rt_29 rfl dX12_person_104 rfl h1  ?_
    refine r_st hG ?_
    refine z_aload_n (pc' := 106) dX12_person_105 rfl rfl ?_
    refine r_getA (kf := 30) (pc' := 109) hK rt_30 dX12_person_106 kX12_58 rfl (by decide) (by decide) rfl ?_
    refine z_aload_n (pc' := 110) dX12_person_109 rfl rfl ?_
    refine r_getI (kf := 34) (pc' := 113) hK dX12_person_110 kX12_372 rfl (by decide) (by decide) rfl ?_
    refine z_iload_n (pc' := 114) dX12_person_113 rfl rfl ?_
    obtain ⟨h1, h⟩ := h
    obtain ⟨h3, h⟩ := h
    obtain ⟨S5, hG⟩ : ∃ z, z = zup S4 2130 (S4 416 34).toNatClampNeg x2 := ⟨_, rfl⟩
    have h := h _ hG
    refine r_zast (pc' := 115) hK rt_30 rfl dX12_person_114 rfl h1 h3 ?_
    refine r_st hG ?_
    refine z_aload_n (pc' := 116) dX12_person_115 rfl rfl ?_
    refine r_getA (kf := 31) (pc' := 119) hK rt_31 dX12_person_116 kX12_61 rfl (by decide) (by decide) rfl ?_
    refine z_iconst (x := 5) (pc' := 120) dX12_person_119 (by decide) rfl ?_
    refine z_aload_n (pc' := 121) dX12_person_120 rfl rfl ?_
    refine r_getI (kf := 34) (pc' := 124) hK dX12_person_121 kX12_372 rfl (by decide) (by decide) rfl ?_
    refine z_imul (pc' := 125) dX12_person_124 rfl rfl ?_
    refine z_iload_n (pc' := 126) dX12_person_125 rfl rfl ?_
    obtain ⟨h1, h⟩ := h
    obtain ⟨S6, hG⟩ : ∃ z, z = zup S5 1131 (5 * (S5 416 34)).toNatClampNeg x3 := ⟨_, rfl⟩
    have h := h _ hG
    refine r_iast (pc' := 127) hK rt_31 rfl dX12_person_126 rfl h1  ?_
    refine r_st hG ?_
    refine z_aload_n (pc' := 128) dX12_person_127 rfl rfl ?_
    refine r_getA (kf := 31) (pc' := 131) hK rt_31 dX12_person_128 kX12_61 rfl (by decide) (by decide) rfl ?_
    refine z_iconst (x := 5) (pc' := 132) dX12_person_131 (by decide) rfl ?_
    refine z_aload_n (pc' := 133) dX12_person_132 rfl rfl ?_
    refine r_getI (kf := 34) (pc' := 136) hK dX12_person_133 kX12_372 rfl (by decide) (by decide) rfl ?_
    refine z_imul (pc' := 137) dX12_person_136 rfl rfl ?_
    refine z_iconst (x := 1) (pc' := 138) dX12_person_137 (by decide) rfl ?_
    refine z_iadd (pc' := 139) dX12_person_138 rfl rfl ?_
    refine z_iload (pc' := 141) dX12_person_139 rfl rfl ?_
    obtain ⟨h1, h⟩ := h
    obtain ⟨S7, hG⟩ : ∃ z, z = zup S6 1131 ((5 * (S6 416 34)) + 1).toNatClampNeg x4 := ⟨_, rfl⟩
    have h := h _ hG
    refine r_iast (pc' := 142) hK rt_31 rfl dX12_person_141 rfl h1  ?_
    refine r_st hG ?_
    refine z_aload_n (pc' := 143) dX12_person_142 rfl rfl ?_
    refine r_getA (kf := 31) (pc' := 146) hK rt_31 dX12_person_143 kX12_61 rfl (by decide) (by decide) rfl ?_
    refine z_iconst (x := 5) (pc' := 147) dX12_person_146 (by decide) rfl ?_
    refine z_aload_n (pc' := 148) dX12_person_147 rfl rfl ?_
    refine r_getI (kf := 34) (pc' := 151) hK dX12_person_148 kX12_372 rfl (by decide) (by decide) rfl ?_
    refine z_imul (pc' := 152) dX12_person_151 rfl rfl ?_
    refine z_iconst (x := 2) (pc' := 153) dX12_person_152 (by decide) rfl ?_
    refine z_iadd (pc' := 154) dX12_person_153 rfl rfl ?_
    refine z_iload (pc' := 156) dX12_person_154 rfl rfl ?_
    obtain ⟨h1, h⟩ := h
    obtain ⟨S8, hG⟩ : ∃ z, z = zup S7 1131 ((5 * (S7 416 34)) + 2).toNatClampNeg x5 := ⟨_, rfl⟩
    have h := h _ hG
    refine r_iast (pc' := 157) hK rt_31 rfl dX12_person_156 rfl h1  ?_
    refine r_st hG ?_
    refine z_aload_n (pc' := 158) dX12_person_157 rfl rfl ?_
    refine r_getA (kf := 31) (pc' := 161) hK rt_31 dX12_person_158 kX12_61 rfl (by decide) (by decide) rfl ?_
    refine z_iconst (x := 5) (pc' := 162) dX12_person_161 (by decide) rfl ?_
    refine z_aload_n (pc' := 163) dX12_person_162 rfl rfl ?_
    refine r_getI (kf := 34) (pc' := 166) hK dX12_person_163 kX12_372 rfl (by decide) (by decide) rfl ?_
    refine z_imul (pc' := 167) dX12_person_166 rfl rfl ?_
    refine z_iconst (x := 3) (pc' := 168) dX12_person_167 (by decide) rfl ?_
    refine z_iadd (pc' := 169) dX12_person_168 rfl rfl ?_
    refine z_iload (pc' := 171) dX12_person_169 rfl rfl ?_
    obtain ⟨h1, h⟩ := h
    obtain ⟨S9, hG⟩ : ∃ z, z = zup S8 1131 ((5 * (S8 416 34)) + 3).toNatClampNeg x6 := ⟨_, rfl⟩
    have h := h _ hG
    refine r_iast (pc' := 172) hK rt_31 rfl dX12_person_171 rfl h1  ?_
    refine r_st hG ?_
    refine z_aload_n (pc' := 173) dX12_person_172 rfl rfl ?_
    refine r_getA (kf := 31) (pc' := 176) hK rt_31 dX12_person_173 kX12_61 rfl (by decide) (by decide) rfl ?_
    refine z_iconst (x := 5) (pc' := 177) dX12_person_176 (by decide) rfl ?_
    refine z_aload_n (pc' := 178) dX12_person_177 rfl rfl ?_
    refine r_getI (kf := 34) (pc' := 181) hK dX12_person_178 kX12_372 rfl (by decide) (by decide) rfl ?_
    refine z_imul (pc' := 182) dX12_person_181 rfl rfl ?_
    refine z_iconst (x := 4) (pc' := 183) dX12_person_182 (by decide) rfl ?_
    refine z_iadd (pc' := 184) dX12_person_183 rfl rfl ?_
    refine z_iload (pc' := 186) dX12_person_184 rfl rfl ?_
    obtain ⟨h1, h⟩ := h
    obtain ⟨S10, hG⟩ : ∃ z, z = zup S9 1131 ((5 * (S9 416 34)) + 4).toNatClampNeg x7 := ⟨_, rfl⟩
    have h := h _ hG
    refine r_iast (pc' := 187) hK rt_31 rfl dX12_person_186 rfl h1  ?_
    refine r_st hG ?_
    refine z_aload_n (pc' := 188) dX12_person_187 rfl rfl ?_
    refine z_dup (pc' := 189) dX12_person_188 rfl rfl ?_
    refine r_getI (kf := 34) (pc' := 192) hK dX12_person_189 kX12_372 rfl (by decide) (by decide) rfl ?_
    refine z_iconst (x := 1) (pc' := 193) dX12_person_192 (by decide) rfl ?_
    refine z_iadd (pc' := 194) dX12_person_193 rfl rfl ?_
    obtain ⟨S11, hG⟩ : ∃ z, z = zup S10 416 34 ((S10 416 34) + 1) := ⟨_, rfl⟩
    have h := h _ hG
    refine r_putI (kf := 34) (pc' := 197) hK dX12_person_194 kX12_372 rfl (by decide) (by decide) rfl rfl (zok_int _) ?_
    refine r_st hG ?_
    refine z_aload_n (pc' := 198) dX12_person_197 rfl rfl ?_
    refine r_getI (kf := 34) (pc' := 201) hK dX12_person_198 kX12_372 rfl (by decide) (by decide) rfl ?_
    refine z_iconst (x := 1) (pc' := 202) dX12_person_201 (by decide) rfl ?_
    refine z_isub (pc' := 203) dX12_person_202 rfl rfl ?_
    exact z_iret dX12_person_203 rfl ⟨_, _, rfl, rfl, h⟩
  · have h := h.2 hc
    refine z_iconst (x := 0) (pc' := 94) dX12_person_93 (by decide) rfl ?_
    exact z_iret dX12_person_94 rfl ⟨_, _, rfl, rfl, h⟩
