/-! what the reference's methods come to, in its numbers -/
def rwp_X12_adds_0 (E : ZE) (l : Launch) (d b : Nat) (A G : ZG) (Q : Option Value → ZS9 → Prop) (k : Nat) (x1 : Int32) (x2 : Int32) (x3 : Int32) (S : ZS9) : Prop :=
  vp_in (4800 + (S 416 20)) 5200 ∧
  ∀ S1, S1 = zup S 1116 (4800 + (S 416 20)).toNatClampNeg x1 →
  vp_in (4800 + (S 416 20)) 5200 ∧
  ∀ S2, S2 = zup S1 1117 (4800 + (S 416 20)).toNatClampNeg x2 →
  vp_in (4800 + (S 416 20)) 5200 ∧
  ∀ S3, S3 = zup S2 1118 (4800 + (S 416 20)).toNatClampNeg x3 →
  ∀ S4, S4 = zup S3 416 20 ((S3 416 20) + 1) →
  Q none S4
theorem rwpt_X12_adds_0 {E : ZE} {l : Launch} {d b : Nat} {A G : ZG} {Q : Option Value → ZS9 → Prop} {k : Nat} {x1 : Int32} {x2 : Int32} {x3 : Int32} {S : ZS9} (hK : RK G) (h : rwp_X12_adds_0 E l d b A G Q k x1 x2 x3 S) : zW E l mX12_adds d b A (rQ G Q) k 0 [some (.ref (zp 416 0)), some (.int x1), some (.int x2), some (.int x3), none] [] (zput G S) := by
  unfold rwp_X12_adds_0 at h
  refine z_sipush (x := 4800) (pc' := 3) dX12_adds_0 (by decide) rfl ?_
  refine z_aload_n (pc' := 4) dX12_adds_3 rfl rfl ?_
  refine r_getI (kf := 20) (pc' := 7) hK dX12_adds_4 kX12_217 rfl (by decide) (by decide) rfl ?_
  refine z_iadd (pc' := 8) dX12_adds_7 rfl rfl ?_
  refine z_istore (pc' := 10) dX12_adds_8 (by decide) rfl ?_
  refine z_aload_n (pc' := 11) dX12_adds_10 rfl rfl ?_
  refine r_getA (kf := 16) (pc' := 14) hK rt_16 dX12_adds_11 kX12_39 rfl (by decide) (by decide) rfl ?_
  refine z_iload (pc' := 16) dX12_adds_14 rfl rfl ?_
  refine z_iload_n (pc' := 17) dX12_adds_16 rfl rfl ?_
  obtain ⟨h1, h⟩ := h
  obtain ⟨S1, hG⟩ : ∃ z, z = zup S 1116 (4800 + (S 416 20)).toNatClampNeg x1 := ⟨_, rfl⟩
  have h := h _ hG
  refine r_iast (pc' := 18) hK rt_16 rfl dX12_adds_17 rfl h1  ?_
  refine r_st hG ?_
  refine z_aload_n (pc' := 19) dX12_adds_18 rfl rfl ?_
  refine r_getA (kf := 17) (pc' := 22) hK rt_17 dX12_adds_19 kX12_42 rfl (by decide) (by decide) rfl ?_
  refine z_iload (pc' := 24) dX12_adds_22 rfl rfl ?_
  refine z_iload_n (pc' := 25) dX12_adds_24 rfl rfl ?_
  obtain ⟨h1, h⟩ := h
  obtain ⟨S2, hG⟩ : ∃ z, z = zup S1 1117 (4800 + (S 416 20)).toNatClampNeg x2 := ⟨_, rfl⟩
  have h := h _ hG
  refine r_iast (pc' := 26) hK rt_17 rfl dX12_adds_25 rfl h1  ?_
  refine r_st hG ?_
  refine z_aload_n (pc' := 27) dX12_adds_26 rfl rfl ?_
  refine r_getA (kf := 18) (pc' := 30) hK rt_18 dX12_adds_27 kX12_45 rfl (by decide) (by decide) rfl ?_
  refine z_iload (pc' := 32) dX12_adds_30 rfl rfl ?_
  refine z_iload_n (pc' := 33) dX12_adds_32 rfl rfl ?_
  obtain ⟨h1, h⟩ := h
  obtain ⟨S3, hG⟩ : ∃ z, z = zup S2 1118 (4800 + (S 416 20)).toNatClampNeg x3 := ⟨_, rfl⟩
  have h := h _ hG
  refine r_iast (pc' := 34) hK rt_18 rfl dX12_adds_33 rfl h1  ?_
  refine r_st hG ?_
  refine z_aload_n (pc' := 35) dX12_adds_34 rfl rfl ?_
  refine z_dup (pc' := 36) dX12_adds_35 rfl rfl ?_
  refine r_getI (kf := 20) (pc' := 39) hK dX12_adds_36 kX12_217 rfl (by decide) (by decide) rfl ?_
  refine z_iconst (x := 1) (pc' := 40) dX12_adds_39 (by decide) rfl ?_
  refine z_iadd (pc' := 41) dX12_adds_40 rfl rfl ?_
  obtain ⟨S4, hG⟩ : ∃ z, z = zup S3 416 20 ((S3 416 20) + 1) := ⟨_, rfl⟩
  have h := h _ hG
  refine r_putI (kf := 20) (pc' := 44) hK dX12_adds_41 kX12_217 rfl (by decide) (by decide) rfl rfl (zok_int _) ?_
  refine r_st hG ?_
  exact z_vret dX12_adds_44 rfl ⟨_, _, rfl, rfl, h⟩
def rwp_X12_again_0 (E : ZE) (l : Launch) (d b : Nat) (A G : ZG) (Q : Option Value → ZS9 → Prop) (k : Nat) (x1 : Int32) (S : ZS9) : Prop :=
  ∀ S1, S1 = zup S 416 0 0 →
  rcI E l mX12_noAsking d [.int x1] S1 k (fun y4 S2 k3 =>
  rcI E l mX12_throwsIf d [.int y4, .int 1] S2 k3 (fun y7 S5 k6 =>
  ((¬ y7 = 0 →
    Q none S5) ∧
  (¬ (¬ y7 = 0) →
    rcI E l mX12_now d [.int x1, .int 0] S5 k6 (fun y10 S8 k9 =>
    ((y10 = 8 →
      zW E l mX12_again d b A (rQ G Q) k9 35 [some (.ref (zp 416 0)), some (.int x1)] [.int 0, .ref (zp 416 0)] (zput G S8)) ∧
    (¬ (y10 = 8) →
      zW E l mX12_again d b A (rQ G Q) k9 35 [some (.ref (zp 416 0)), some (.int x1)] [.int 1, .ref (zp 416 0)] (zput G S8))))))))
theorem rwpt_X12_again_0 {E : ZE} {l : Launch} {d b : Nat} {A G : ZG} {Q : Option Value → ZS9 → Prop} {k : Nat} {x1 : Int32} {S : ZS9} (hK : RK G) (h : rwp_X12_again_0 E l d b A G Q k x1 S) : zW E l mX12_again d b A (rQ G Q) k 0 [some (.ref (zp 416 0)), some (.int x1)] [] (zput G S) := by
  unfold rwp_X12_again_0 at h
  refine z_aload_n (pc' := 1) dX12_again_0 rfl rfl ?_
  refine z_iconst (x := 0) (pc' := 2) dX12_again_1 (by decide) rfl ?_
  obtain ⟨S1, hG⟩ : ∃ z, z = zup S 416 0 0 := ⟨_, rfl⟩
  have h := h _ hG
  refine r_putI (kf := 0) (pc' := 5) hK dX12_again_2 kX12_178 rfl (by decide) (by decide) rfl rfl (zok_int _) ?_
  refine r_st hG ?_
  refine z_aload_n (pc' := 6) dX12_again_5 rfl rfl ?_
  refine z_aload_n (pc' := 7) dX12_again_6 rfl rfl ?_
  refine z_iload_n (pc' := 8) dX12_again_7 rfl rfl ?_
  refine r_callI (Y := mX12_noAsking) (n := 1) (as := [.int x1]) (st := [.ref (zp 416 0)]) (pc' := 11) h hK dX12_again_8 kX12_431 vX12_noAsking rfl rfl rfl (Nat.le_of_ble_eq_true rfl) (fun y4 S2 k3 h => ?_)
  refine z_iconst (x := 1) (pc' := 12) dX12_again_11 (by decide) rfl ?_
  refine r_callI (Y := mX12_throwsIf) (n := 2) (as := [.int y4, .int 1]) (st := []) (pc' := 15) h hK dX12_again_12 kX12_321 vX12_throwsIf rfl rfl rfl (Nat.le_of_ble_eq_true rfl) (fun y7 S5 k6 h => ?_)
  refine z_if_ne (pt := 42) (pc' := 18) dX12_again_15 (by decide) rfl (fun hc => ?_) (fun hc => ?_)
  · have h := h.1 hc
    exact z_vret dX12_again_42 rfl ⟨_, _, rfl, rfl, h⟩
  · have h := h.2 hc
    refine z_aload_n (pc' := 19) dX12_again_18 rfl rfl ?_
    refine z_aload_n (pc' := 20) dX12_again_19 rfl rfl ?_
    refine z_iload_n (pc' := 21) dX12_again_20 rfl rfl ?_
    refine z_iconst (x := 0) (pc' := 22) dX12_again_21 (by decide) rfl ?_
    refine r_callI (Y := mX12_now) (n := 2) (as := [.int x1, .int 0]) (st := [.ref (zp 416 0)]) (pc' := 25) h hK dX12_again_22 kX12_434 vX12_now rfl rfl rfl (Nat.le_of_ble_eq_true rfl) (fun y10 S8 k9 h => ?_)
    refine z_bipush (x := 8) (pc' := 27) dX12_again_25 (by decide) rfl ?_
    refine z_icmp_eq (pt := 34) (pc' := 30) dX12_again_27 (by decide) rfl (fun hc => ?_) (fun hc => ?_)
    · have h := h.1 hc
      refine z_iconst (x := 0) (pc' := 35) dX12_again_34 (by decide) rfl ?_
      exact z_dr (ls' := [some (.ref (zp 416 0)), some (.int x1)]) ⟨rfl, rfl, trivial⟩ h
    · have h := h.2 hc
      refine z_iconst (x := 1) (pc' := 31) dX12_again_30 (by decide) rfl ?_
      refine z_goto (pc' := 35) dX12_again_31 (by decide) ?_
      exact z_dr (ls' := [some (.ref (zp 416 0)), some (.int x1)]) ⟨rfl, rfl, trivial⟩ h
def rwp_X12_again_35 (E : ZE) (l : Launch) (d b : Nat) (A G : ZG) (Q : Option Value → ZS9 → Prop) (k : Nat) (x1 : Int32) (s0 : Int32) (S : ZS9) : Prop :=
  rcI E l mX12_throwsIf d [.int s0, .int 2] S k (fun y3 S1 k2 =>
  ((y3 = 0 →
    rcV E l mX12_sets d [.int x1, .int 0, .int 5] S1 k2 (fun S4 k5 =>
    rcV E l mX12_sets d [.int x1, .int 4, .int (-1)] S4 k5 (fun S6 k7 =>
    Q none S6))) ∧
  (¬ (y3 = 0) →
    Q none S1)))
theorem rwpt_X12_again_35 {E : ZE} {l : Launch} {d b : Nat} {A G : ZG} {Q : Option Value → ZS9 → Prop} {k : Nat} {x1 : Int32} {s0 : Int32} {S : ZS9} (hK : RK G) (h : rwp_X12_again_35 E l d b A G Q k x1 s0 S) : zW E l mX12_again d b A (rQ G Q) k 35 [some (.ref (zp 416 0)), some (.int x1)] [.int s0, .ref (zp 416 0)] (zput G S) := by
  unfold rwp_X12_again_35 at h
  refine z_iconst (x := 2) (pc' := 36) dX12_again_35 (by decide) rfl ?_
  refine r_callI (Y := mX12_throwsIf) (n := 2) (as := [.int s0, .int 2]) (st := []) (pc' := 39) h hK dX12_again_36 kX12_321 vX12_throwsIf rfl rfl rfl (Nat.le_of_ble_eq_true rfl) (fun y3 S1 k2 h => ?_)
  refine z_if_eq (pt := 43) (pc' := 42) dX12_again_39 (by decide) rfl (fun hc => ?_) (fun hc => ?_)
  · have h := h.1 hc
    refine z_aload_n (pc' := 44) dX12_again_43 rfl rfl ?_
    refine z_iload_n (pc' := 45) dX12_again_44 rfl rfl ?_
    refine z_iconst (x := 0) (pc' := 46) dX12_again_45 (by decide) rfl ?_
    refine z_iconst (x := 5) (pc' := 47) dX12_again_46 (by decide) rfl ?_
    refine r_callV (Y := mX12_sets) (n := 3) (as := [.int x1, .int 0, .int 5]) (st := []) (pc' := 50) h hK dX12_again_47 kX12_425 vX12_sets rfl rfl rfl (Nat.le_of_ble_eq_true rfl) (fun S4 k5 h => ?_)
    refine z_aload_n (pc' := 51) dX12_again_50 rfl rfl ?_
    refine z_iload_n (pc' := 52) dX12_again_51 rfl rfl ?_
    refine z_iconst (x := 4) (pc' := 53) dX12_again_52 (by decide) rfl ?_
    refine z_iconst (x := (-1)) (pc' := 54) dX12_again_53 (by decide) rfl ?_
    refine r_callV (Y := mX12_sets) (n := 3) (as := [.int x1, .int 4, .int (-1)]) (st := []) (pc' := 57) h hK dX12_again_54 kX12_425 vX12_sets rfl rfl rfl (Nat.le_of_ble_eq_true rfl) (fun S6 k7 h => ?_)
    exact z_vret dX12_again_57 rfl ⟨_, _, rfl, rfl, h⟩
  · have h := h.2 hc
    exact z_vret dX12_again_42 rfl ⟨_, _, rfl, rfl, h⟩
def rwp_X12_ahead_0 (E : ZE) (l : Launch) (d b : Nat) (A G : ZG) (Q : Option Value → ZS9 → Prop) (k : Nat) (x1 : Int32) (S : ZS9) : Prop :=
  ∀ S1, S1 = zup S 416 0 0 →
  rcI E l mX12_noAsking d [.int x1] S1 k (fun y4 S2 k3 =>
  rcI E l mX12_throwsIf d [.int y4, .int 1] S2 k3 (fun y7 S5 k6 =>
  ((y7 = 0 →
    zW E l mX12_ahead d b A (rQ G Q) k6 22 [some (.ref (zp 416 0)), some (.int x1), some (.int 0), none, none] [] (zput G S5)) ∧
  (¬ (y7 = 0) →
    Q (some (.int 0)) S5))))
theorem rwpt_X12_ahead_0 {E : ZE} {l : Launch} {d b : Nat} {A G : ZG} {Q : Option Value → ZS9 → Prop} {k : Nat} {x1 : Int32} {S : ZS9} (hK : RK G) (h : rwp_X12_ahead_0 E l d b A G Q k x1 S) : zW E l mX12_ahead d b A (rQ G Q) k 0 [some (.ref (zp 416 0)), some (.int x1), none, none, none] [] (zput G S) := by
  unfold rwp_X12_ahead_0 at h
  refine z_aload_n (pc' := 1) dX12_ahead_0 rfl rfl ?_
  refine z_iconst (x := 0) (pc' := 2) dX12_ahead_1 (by decide) rfl ?_
  obtain ⟨S1, hG⟩ : ∃ z, z = zup S 416 0 0 := ⟨_, rfl⟩
  have h := h _ hG
  refine r_putI (kf := 0) (pc' := 5) hK dX12_ahead_2 kX12_178 rfl (by decide) (by decide) rfl rfl (zok_int _) ?_
  refine r_st hG ?_
  refine z_aload_n (pc' := 6) dX12_ahead_5 rfl rfl ?_
  refine z_aload_n (pc' := 7) dX12_ahead_6 rfl rfl ?_
  refine z_iload_n (pc' := 8) dX12_ahead_7 rfl rfl ?_
  refine r_callI (Y := mX12_noAsking) (n := 1) (as := [.int x1]) (st := [.ref (zp 416 0)]) (pc' := 11) h hK dX12_ahead_8 kX12_431 vX12_noAsking rfl rfl rfl (Nat.le_of_ble_eq_true rfl) (fun y4 S2 k3 h => ?_)
  refine z_iconst (x := 1) (pc' := 12) dX12_ahead_11 (by decide) rfl ?_
  refine r_callI (Y := mX12_throwsIf) (n := 2) (as := [.int y4, .int 1]) (st := []) (pc' := 15) h hK dX12_ahead_12 kX12_321 vX12_throwsIf rfl rfl rfl (Nat.le_of_ble_eq_true rfl) (fun y7 S5 k6 h => ?_)
  refine z_if_eq (pt := 20) (pc' := 18) dX12_ahead_15 (by decide) rfl (fun hc => ?_) (fun hc => ?_)
  · have h := h.1 hc
    refine z_iconst (x := 0) (pc' := 21) dX12_ahead_20 (by decide) rfl ?_
    refine z_istore_n (pc' := 22) dX12_ahead_21 (by decide) rfl ?_
    exact z_dr (ls' := [some (.ref (zp 416 0)), some (.int x1), some (.int 0), none, none]) ⟨rfl, rfl, rfl, trivial⟩ h
  · have h := h.2 hc
    refine z_iconst (x := 0) (pc' := 19) dX12_ahead_18 (by decide) rfl ?_
    exact z_iret dX12_ahead_19 rfl ⟨_, _, rfl, rfl, h⟩
def rwp_X12_ahead_22 (E : ZE) (l : Launch) (d b : Nat) (A G : ZG) (Q : Option Value → ZS9 → Prop) (k : Nat) (x1 : Int32) (x2 : Int32) (S : ZS9) : Prop :=
  ((4 ≤ x2 →
    Q (some (.int (-1))) S) ∧
  (¬ (4 ≤ x2) →
    rcI E l mX12_now d [.int x1, .int 0] S k (fun y3 S1 k2 =>
    scI E l mX12_stateAt d [.int x2] (fun y4 =>
    ((y3 = y4 →
      zW E l mX12_ahead d b A (rQ G Q) k2 48 [some (.ref (zp 416 0)), some (.int x1), some (.int x2), some (.int 0), some (.int 0)] [] (zput G S1)) ∧
    (¬ (y3 = y4) →
      zW E l mX12_ahead d b A (rQ G Q) k2 22 [some (.ref (zp 416 0)), some (.int x1), some (.int (x2 + 1)), none, none] [] (zput G S1)))))))
theorem rwpt_X12_ahead_22 {E : ZE} {l : Launch} {d b : Nat} {A G : ZG} {Q : Option Value → ZS9 → Prop} {k : Nat} {x1 : Int32} {x2 : Int32} {S : ZS9} (hK : RK G) (h : rwp_X12_ahead_22 E l d b A G Q k x1 x2 S) : zW E l mX12_ahead d b A (rQ G Q) k 22 [some (.ref (zp 416 0)), some (.int x1), some (.int x2), none, none] [] (zput G S) := by
  unfold rwp_X12_ahead_22 at h
  refine z_iload_n (pc' := 23) dX12_ahead_22 rfl rfl ?_
  refine z_iconst (x := 4) (pc' := 24) dX12_ahead_23 (by decide) rfl ?_
  refine z_icmp_ge (pt := 113) (pc' := 27) dX12_ahead_24 (by decide) rfl (fun hc => ?_) (fun hc => ?_)
  · have h := h.1 hc
    refine z_iconst (x := (-1)) (pc' := 114) dX12_ahead_113 (by decide) rfl ?_
    exact z_iret dX12_ahead_114 rfl ⟨_, _, rfl, rfl, h⟩
  · have h := h.2 hc
    refine z_aload_n (pc' := 28) dX12_ahead_27 rfl rfl ?_
    refine z_iload_n (pc' := 29) dX12_ahead_28 rfl rfl ?_
    refine z_iconst (x := 0) (pc' := 30) dX12_ahead_29 (by decide) rfl ?_
    refine r_callI (Y := mX12_now) (n := 2) (as := [.int x1, .int 0]) (st := []) (pc' := 33) h hK dX12_ahead_30 kX12_434 vX12_now rfl rfl rfl (Nat.le_of_ble_eq_true rfl) (fun y3 S1 k2 h => ?_)
    refine z_iload_n (pc' := 34) dX12_ahead_33 rfl rfl ?_
    refine r_callSI (Y := mX12_stateAt) (n := 1) (as := [.int x2]) (st := [.int y3]) (pc' := 37) h dX12_ahead_34 kX12_450 sX12_stateAt rfl rfl (Nat.le_of_ble_eq_true rfl) (fun y4 h => ?_)
    refine z_icmp_eq (pt := 43) (pc' := 40) dX12_ahead_37 (by decide) rfl (fun hc => ?_) (fun hc => ?_)
    · have h := h.1 hc
      refine z_iconst (x := 0) (pc' := 44) dX12_ahead_43 (by decide) rfl ?_
      refine z_istore_n (pc' := 45) dX12_ahead_44 (by decide) rfl ?_
      refine z_iconst (x := 0) (pc' := 46) dX12_ahead_45 (by decide) rfl ?_
      refine z_istore (pc' := 48) dX12_ahead_46 (by decide) rfl ?_
      exact z_dr (ls' := [some (.ref (zp 416 0)), some (.int x1), some (.int x2), some (.int 0), some (.int 0)]) ⟨rfl, rfl, rfl, rfl, rfl, trivial⟩ h
    · have h := h.2 hc
      refine z_goto (pc' := 107) dX12_ahead_40 (by decide) ?_
      refine z_iinc (y := x2 + 1) (pc' := 110) dX12_ahead_107 rfl (zinc_1 _) (by decide) rfl ?_
      refine z_goto (pc' := 22) dX12_ahead_110 (by decide) ?_
      exact z_dr (ls' := [some (.ref (zp 416 0)), some (.int x1), some (.int (x2 + 1)), none, none]) ⟨rfl, rfl, rfl, trivial⟩ h
def rwp_X12_ahead_48 (E : ZE) (l : Launch) (d b : Nat) (A G : ZG) (Q : Option Value → ZS9 → Prop) (k : Nat) (x1 : Int32) (x2 : Int32) (x3 : Int32) (x4 : Int32) (S : ZS9) : Prop :=
  (((S 416 66) ≤ x4 →
    Q (some (.int x3)) S) ∧
  (¬ ((S 416 66) ≤ x4) →
    ((x4 = x1 →
      zW E l mX12_ahead d b A (rQ G Q) k 48 [some (.ref (zp 416 0)), some (.int x1), some (.int x2), some (.int (x3 + 0)), some (.int (x4 + 1))] [] (zput G S)) ∧
    (¬ (x4 = x1) →
      rcI E l mX12_now d [.int x4, .int 0] S k (fun y3 S1 k2 =>
      scI E l mX12_stateAt d [.int x2] (fun y4 =>
      ((¬ y3 = y4 →
        zW E l mX12_ahead d b A (rQ G Q) k2 48 [some (.ref (zp 416 0)), some (.int x1), some (.int x2), some (.int (x3 + 0)), some (.int (x4 + 1))] [] (zput G S1)) ∧
      (¬ (¬ y3 = y4) →
        rcI E l mX12_isAhead d [.int x4, .int x1, .int (S1 416 42)] S1 k2 (fun y7 S5 k6 =>
        ((y7 = 0 →
          zW E l mX12_ahead d b A (rQ G Q) k6 48 [some (.ref (zp 416 0)), some (.int x1), some (.int x2), some (.int (x3 + 0)), some (.int (x4 + 1))] [] (zput G S5)) ∧
        (¬ (y7 = 0) →
          zW E l mX12_ahead d b A (rQ G Q) k6 48 [some (.ref (zp 416 0)), some (.int x1), some (.int x2), some (.int (x3 + 1)), some (.int (x4 + 1))] [] (zput G S5))))))))))))
theorem rwpt_X12_ahead_48 {E : ZE} {l : Launch} {d b : Nat} {A G : ZG} {Q : Option Value → ZS9 → Prop} {k : Nat} {x1 : Int32} {x2 : Int32} {x3 : Int32} {x4 : Int32} {S : ZS9} (hK : RK G) (h : rwp_X12_ahead_48 E l d b A G Q k x1 x2 x3 x4 S) : zW E l mX12_ahead d b A (rQ G Q) k 48 [some (.ref (zp 416 0)), some (.int x1), some (.int x2), some (.int x3), some (.int x4)] [] (zput G S) := by
  unfold rwp_X12_ahead_48 at h
  refine z_iload (pc' := 50) dX12_ahead_48 rfl rfl ?_
  refine z_aload_n (pc' := 51) dX12_ahead_50 rfl rfl ?_
  refine r_getI (kf := 66) (pc' := 54) hK dX12_ahead_51 kX12_412 rfl (by decide) (by decide) rfl ?_
  refine z_icmp_ge (pt := 105) (pc' := 57) dX12_ahead_54 (by decide) rfl (fun hc => ?_) (fun hc => ?_)
  · have h := h.1 hc
    refine z_iload_n (pc' := 106) dX12_ahead_105 rfl rfl ?_
    exact z_iret dX12_ahead_106 rfl ⟨_, _, rfl, rfl, h⟩
  · have h := h.2 hc
    refine z_iload_n (pc' := 58) dX12_ahead_57 rfl rfl ?_
    refine z_iload (pc' := 60) dX12_ahead_58 rfl rfl ?_
    refine z_iload_n (pc' := 61) dX12_ahead_60 rfl rfl ?_
    refine z_icmp_eq (pt := 96) (pc' := 64) dX12_ahead_61 (by decide) rfl (fun hc => ?_) (fun hc => ?_)
    · have h := h.1 hc
      refine z_iconst (x := 0) (pc' := 97) dX12_ahead_96 (by decide) rfl ?_
      refine z_iadd (pc' := 98) dX12_ahead_97 rfl rfl ?_
      refine z_istore_n (pc' := 99) dX12_ahead_98 (by decide) rfl ?_
      refine z_iinc (y := x4 + 1) (pc' := 102) dX12_ahead_99 rfl (zinc_1 _) (by decide) rfl ?_
      refine z_goto (pc' := 48) dX12_ahead_102 (by decide) ?_
      exact z_dr (ls' := [some (.ref (zp 416 0)), some (.int x1), some (.int x2), some (.int (x3 + 0)), some (.int (x4 + 1))]) ⟨rfl, rfl, rfl, rfl, rfl, trivial⟩ h
    · have h := h.2 hc
      refine z_aload_n (pc' := 65) dX12_ahead_64 rfl rfl ?_
      refine z_iload (pc' := 67) dX12_ahead_65 rfl rfl ?_
      refine z_iconst (x := 0) (pc' := 68) dX12_ahead_67 (by decide) rfl ?_
      refine r_callI (Y := mX12_now) (n := 2) (as := [.int x4, .int 0]) (st := [.int x3]) (pc' := 71) h hK dX12_ahead_68 kX12_434 vX12_now rfl rfl rfl (Nat.le_of_ble_eq_true rfl) (fun y3 S1 k2 h => ?_)
      refine z_iload_n (pc' := 72) dX12_ahead_71 rfl rfl ?_
      refine r_callSI (Y := mX12_stateAt) (n := 1) (as := [.int x2]) (st := [.int y3, .int x3]) (pc' := 75) h dX12_ahead_72 kX12_450 sX12_stateAt rfl rfl (Nat.le_of_ble_eq_true rfl) (fun y4 h => ?_)
      refine z_icmp_ne (pt := 96) (pc' := 78) dX12_ahead_75 (by decide) rfl (fun hc => ?_) (fun hc => ?_)
      · have h := h.1 hc
        refine z_iconst (x := 0) (pc' := 97) dX12_ahead_96 (by decide) rfl ?_
        refine z_iadd (pc' := 98) dX12_ahead_97 rfl rfl ?_
        refine z_istore_n (pc' := 99) dX12_ahead_98 (by decide) rfl ?_
        refine z_iinc (y := x4 + 1) (pc' := 102) dX12_ahead_99 rfl (zinc_1 _) (by decide) rfl ?_
        refine z_goto (pc' := 48) dX12_ahead_102 (by decide) ?_
        exact z_dr (ls' := [some (.ref (zp 416 0)), some (.int x1), some (.int x2), some (.int (x3 + 0)), some (.int (x4 + 1))]) ⟨rfl, rfl, rfl, rfl, rfl, trivial⟩ h
      · have h := h.2 hc
        refine z_aload_n (pc' := 79) dX12_ahead_78 rfl rfl ?_
        refine z_iload (pc' := 81) dX12_ahead_79 rfl rfl ?_
        refine z_iload_n (pc' := 82) dX12_ahead_81 rfl rfl ?_
        refine z_aload_n (pc' := 83) dX12_ahead_82 rfl rfl ?_
        refine r_getI (kf := 42) (pc' := 86) hK dX12_ahead_83 kX12_403 rfl (by decide) (by decide) rfl ?_
        refine r_callI (Y := mX12_isAhead) (n := 3) (as := [.int x4, .int x1, .int (S1 416 42)]) (st := [.int x3]) (pc' := 89) h hK dX12_ahead_86 kX12_453 vX12_isAhead rfl rfl rfl (Nat.le_of_ble_eq_true rfl) (fun y7 S5 k6 h => ?_)
        refine z_if_eq (pt := 96) (pc' := 92) dX12_ahead_89 (by decide) rfl (fun hc => ?_) (fun hc => ?_)
        · have h := h.1 hc
          refine z_iconst (x := 0) (pc' := 97) dX12_ahead_96 (by decide) rfl ?_
          refine z_iadd (pc' := 98) dX12_ahead_97 rfl rfl ?_
          refine z_istore_n (pc' := 99) dX12_ahead_98 (by decide) rfl ?_
          refine z_iinc (y := x4 + 1) (pc' := 102) dX12_ahead_99 rfl (zinc_1 _) (by decide) rfl ?_
          refine z_goto (pc' := 48) dX12_ahead_102 (by decide) ?_
          exact z_dr (ls' := [some (.ref (zp 416 0)), some (.int x1), some (.int x2), some (.int (x3 + 0)), some (.int (x4 + 1))]) ⟨rfl, rfl, rfl, rfl, rfl, trivial⟩ h
        · have h := h.2 hc
          refine z_iconst (x := 1) (pc' := 93) dX12_ahead_92 (by decide) rfl ?_
          refine z_goto (pc' := 97) dX12_ahead_93 (by decide) ?_
          refine z_iadd (pc' := 98) dX12_ahead_97 rfl rfl ?_
          refine z_istore_n (pc' := 99) dX12_ahead_98 (by decide) rfl ?_
          refine z_iinc (y := x4 + 1) (pc' := 102) dX12_ahead_99 rfl (zinc_1 _) (by decide) rfl ?_
          refine z_goto (pc' := 48) dX12_ahead_102 (by decide) ?_
          exact z_dr (ls' := [some (.ref (zp 416 0)), some (.int x1), some (.int x2), some (.int (x3 + 1)), some (.int (x4 + 1))]) ⟨rfl, rfl, rfl, rfl, rfl, trivial⟩ h
def rwp_X12_ask_0 (E : ZE) (l : Launch) (d b : Nat) (A G : ZG) (Q : Option Value → ZS9 → Prop) (k : Nat) (x1 : Int32) (x2 : Int32) (x3 : Int32) (x4 : Int32) (x5 : Int32) (S : ZS9) : Prop :=
  ∀ S1, S1 = zup S 416 0 0 →
  rcI E l mX12_nobody d [.int x1] S1 k (fun y4 S2 k3 =>
  rcI E l mX12_throwsIf d [.int y4, .int 1] S2 k3 (fun y7 S5 k6 =>
  ((¬ y7 = 0 →
    Q (some (.int 0)) S5) ∧
  (¬ (¬ y7 = 0) →
    rcI E l mX12_noAsk d [.int x2, .int x3] S5 k6 (fun y10 S8 k9 =>
    ((¬ y10 = 0 →
      zW E l mX12_ask d b A (rQ G Q) k9 45 [some (.ref (zp 416 0)), some (.int x1), some (.int x2), some (.int x3), some (.int x4), some (.int x5), none] [.int 1, .ref (zp 416 0)] (zput G S8)) ∧
    (¬ (¬ y10 = 0) →
      scI E l mX12_in d [.int x4, .int 0, .int 255] (fun y11 =>
      ((¬ y11 = 0 →
        zW E l mX12_ask d b A (rQ G Q) k9 45 [some (.ref (zp 416 0)), some (.int x1), some (.int x2), some (.int x3), some (.int x4), some (.int x5), none] [.int 0, .ref (zp 416 0)] (zput G S8)) ∧
      (¬ (¬ y11 = 0) →
        zW E l mX12_ask d b A (rQ G Q) k9 45 [some (.ref (zp 416 0)), some (.int x1), some (.int x2), some (.int x3), some (.int x4), some (.int x5), none] [.int 1, .ref (zp 416 0)] (zput G S8)))))))))))
theorem rwpt_X12_ask_0 {E : ZE} {l : Launch} {d b : Nat} {A G : ZG} {Q : Option Value → ZS9 → Prop} {k : Nat} {x1 : Int32} {x2 : Int32} {x3 : Int32} {x4 : Int32} {x5 : Int32} {S : ZS9} (hK : RK G) (h : rwp_X12_ask_0 E l d b A G Q k x1 x2 x3 x4 x5 S) : zW E l mX12_ask d b A (rQ G Q) k 0 [some (.ref (zp 416 0)), some (.int x1), some (.int x2), some (.int x3), some (.int x4), some (.int x5), none] [] (zput G S) := by
  unfold rwp_X12_ask_0 at h
  refine z_aload_n (pc' := 1) dX12_ask_0 rfl rfl ?_
  refine z_iconst (x := 0) (pc' := 2) dX12_ask_1 (by decide) rfl ?_
  obtain ⟨S1, hG⟩ : ∃ z, z = zup S 416 0 0 := ⟨_, rfl⟩
  have h := h _ hG
  refine r_putI (kf := 0) (pc' := 5) hK dX12_ask_2 kX12_178 rfl (by decide) (by decide) rfl rfl (zok_int _) ?_
  refine r_st hG ?_
  refine z_aload_n (pc' := 6) dX12_ask_5 rfl rfl ?_
  refine z_aload_n (pc' := 7) dX12_ask_6 rfl rfl ?_
  refine z_iload_n (pc' := 8) dX12_ask_7 rfl rfl ?_
  refine r_callI (Y := mX12_nobody) (n := 1) (as := [.int x1]) (st := [.ref (zp 416 0)]) (pc' := 11) h hK dX12_ask_8 kX12_385 vX12_nobody rfl rfl rfl (Nat.le_of_ble_eq_true rfl) (fun y4 S2 k3 h => ?_)
  refine z_iconst (x := 1) (pc' := 12) dX12_ask_11 (by decide) rfl ?_
  refine r_callI (Y := mX12_throwsIf) (n := 2) (as := [.int y4, .int 1]) (st := []) (pc' := 15) h hK dX12_ask_12 kX12_321 vX12_throwsIf rfl rfl rfl (Nat.le_of_ble_eq_true rfl) (fun y7 S5 k6 h => ?_)
  refine z_if_ne (pt := 74) (pc' := 18) dX12_ask_15 (by decide) rfl (fun hc => ?_) (fun hc => ?_)
  · have h := h.1 hc
    refine z_iconst (x := 0) (pc' := 75) dX12_ask_74 (by decide) rfl ?_
    exact z_iret dX12_ask_75 rfl ⟨_, _, rfl, rfl, h⟩
  · have h := h.2 hc
    refine z_aload_n (pc' := 19) dX12_ask_18 rfl rfl ?_
    refine z_aload_n (pc' := 20) dX12_ask_19 rfl rfl ?_
    refine z_iload_n (pc' := 21) dX12_ask_20 rfl rfl ?_
    refine z_iload_n (pc' := 22) dX12_ask_21 rfl rfl ?_
    refine r_callI (Y := mX12_noAsk) (n := 2) (as := [.int x2, .int x3]) (st := [.ref (zp 416 0)]) (pc' := 25) h hK dX12_ask_22 kX12_418 vX12_noAsk rfl rfl rfl (Nat.le_of_ble_eq_true rfl) (fun y10 S8 k9 h => ?_)
    refine z_if_ne (pt := 40) (pc' := 28) dX12_ask_25 (by decide) rfl (fun hc => ?_) (fun hc => ?_)
    · have h := h.1 hc
      refine z_iconst (x := 1) (pc' := 41) dX12_ask_40 (by decide) rfl ?_
      refine z_goto (pc' := 45) dX12_ask_41 (by decide) ?_
      exact z_dr (ls' := [some (.ref (zp 416 0)), some (.int x1), some (.int x2), some (.int x3), some (.int x4), some (.int x5), none]) ⟨rfl, rfl, rfl, rfl, rfl, rfl, trivial⟩ h
    · have h := h.2 hc
      refine z_iload (pc' := 30) dX12_ask_28 rfl rfl ?_
      refine z_iconst (x := 0) (pc' := 31) dX12_ask_30 (by decide) rfl ?_
      refine z_sipush (x := 255) (pc' := 34) dX12_ask_31 (by decide) rfl ?_
      refine r_callSI (Y := mX12_in) (n := 3) (as := [.int x4, .int 0, .int 255]) (st := [.ref (zp 416 0)]) (pc' := 37) h dX12_ask_34 kX12_317 sX12_in rfl rfl (Nat.le_of_ble_eq_true rfl) (fun y11 h => ?_)
      refine z_if_ne (pt := 44) (pc' := 40) dX12_ask_37 (by decide) rfl (fun hc => ?_) (fun hc => ?_)
      · have h := h.1 hc
        refine z_iconst (x := 0) (pc' := 45) dX12_ask_44 (by decide) rfl ?_
        exact z_dr (ls' := [some (.ref (zp 416 0)), some (.int x1), some (.int x2), some (.int x3), some (.int x4), some (.int x5), none]) ⟨rfl, rfl, rfl, rfl, rfl, rfl, trivial⟩ h
      · have h := h.2 hc
        refine z_iconst (x := 1) (pc' := 41) dX12_ask_40 (by decide) rfl ?_
        refine z_goto (pc' := 45) dX12_ask_41 (by decide) ?_
        exact z_dr (ls' := [some (.ref (zp 416 0)), some (.int x1), some (.int x2), some (.int x3), some (.int x4), some (.int x5), none]) ⟨rfl, rfl, rfl, rfl, rfl, rfl, trivial⟩ h
def rwp_X12_ask_45 (E : ZE) (l : Launch) (d b : Nat) (A G : ZG) (Q : Option Value → ZS9 → Prop) (k : Nat) (x1 : Int32) (x2 : Int32) (x3 : Int32) (x4 : Int32) (x5 : Int32) (s0 : Int32) (S : ZS9) : Prop :=
  rcI E l mX12_throwsIf d [.int s0, .int 2] S k (fun y3 S1 k2 =>
  ((¬ y3 = 0 →
    Q (some (.int 0)) S1) ∧
  (¬ (¬ y3 = 0) →
    ((¬ (S1 416 66) = 120 →
      zW E l mX12_ask d b A (rQ G Q) k2 67 [some (.ref (zp 416 0)), some (.int x1), some (.int x2), some (.int x3), some (.int x4), some (.int x5), none] [.int 0, .ref (zp 416 0)] (zput G S1)) ∧
    (¬ (¬ (S1 416 66) = 120) →
      zW E l mX12_ask d b A (rQ G Q) k2 67 [some (.ref (zp 416 0)), some (.int x1), some (.int x2), some (.int x3), some (.int x4), some (.int x5), none] [.int 1, .ref (zp 416 0)] (zput G S1))))))
theorem rwpt_X12_ask_45 {E : ZE} {l : Launch} {d b : Nat} {A G : ZG} {Q : Option Value → ZS9 → Prop} {k : Nat} {x1 : Int32} {x2 : Int32} {x3 : Int32} {x4 : Int32} {x5 : Int32} {s0 : Int32} {S : ZS9} (hK : RK G) (h : rwp_X12_ask_45 E l d b A G Q k x1 x2 x3 x4 x5 s0 S) : zW E l mX12_ask d b A (rQ G Q) k 45 [some (.ref (zp 416 0)), some (.int x1), some (.int x2), some (.int x3), some (.int x4), some (.int x5), none] [.int s0, .ref (zp 416 0)] (zput G S) := by
  unfold rwp_X12_ask_45 at h
  refine z_iconst (x := 2) (pc' := 46) dX12_ask_45 (by decide) rfl ?_
  refine r_callI (Y := mX12_throwsIf) (n := 2) (as := [.int s0, .int 2]) (st := []) (pc' := 49) h hK dX12_ask_46 kX12_321 vX12_throwsIf rfl rfl rfl (Nat.le_of_ble_eq_true rfl) (fun y3 S1 k2 h => ?_)
  refine z_if_ne (pt := 74) (pc' := 52) dX12_ask_49 (by decide) rfl (fun hc => ?_) (fun hc => ?_)
  · have h := h.1 hc
    refine z_iconst (x := 0) (pc' := 75) dX12_ask_74 (by decide) rfl ?_
    exact z_iret dX12_ask_75 rfl ⟨_, _, rfl, rfl, h⟩
  · have h := h.2 hc
    refine z_aload_n (pc' := 53) dX12_ask_52 rfl rfl ?_
    refine z_aload_n (pc' := 54) dX12_ask_53 rfl rfl ?_
    refine r_getI (kf := 66) (pc' := 57) hK dX12_ask_54 kX12_412 rfl (by decide) (by decide) rfl ?_
    refine z_bipush (x := 120) (pc' := 59) dX12_ask_57 (by decide) rfl ?_
    refine z_icmp_ne (pt := 66) (pc' := 62) dX12_ask_59 (by decide) rfl (fun hc => ?_) (fun hc => ?_)
    · have h := h.1 hc
      refine z_iconst (x := 0) (pc' := 67) dX12_ask_66 (by decide) rfl ?_
      exact z_dr (ls' := [some (.ref (zp 416 0)), some (.int x1), some (.int x2), some (.int x3), some (.int x4), some (.int x5), none]) ⟨rfl, rfl, rfl, rfl, rfl, rfl, trivial⟩ h
    · have h := h.2 hc
      refine z_iconst (x := 1) (pc' := 63) dX12_ask_62 (by decide) rfl ?_
      refine z_goto (pc' := 67) dX12_ask_63 (by decide) ?_
      exact z_dr (ls' := [some (.ref (zp 416 0)), some (.int x1), some (.int x2), some (.int x3), some (.int x4), some (.int x5), none]) ⟨rfl, rfl, rfl, rfl, rfl, rfl, trivial⟩ h
def rwp_X12_ask_67 (E : ZE) (l : Launch) (d b : Nat) (A G : ZG) (Q : Option Value → ZS9 → Prop) (k : Nat) (x1 : Int32) (x2 : Int32) (x3 : Int32) (x4 : Int32) (x5 : Int32) (s0 : Int32) (S : ZS9) : Prop :=
  rcI E l mX12_throwsIf d [.int s0, .int 3] S k (fun y3 S1 k2 =>
  ((y3 = 0 →
    rcV E l mX12_judges d [.int x1, .int x2, .int x3, .int x5] S1 k2 (fun S4 k5 =>
    ∀ S6, S6 = zup S4 416 66 ((S4 416 66) + 1) →
    vp_in (S4 416 66) 120 ∧
    ∀ S7, S7 = zup S6 1153 (S4 416 66).toNatClampNeg x1 →
    vp_in (S4 416 66) 120 ∧
    ∀ S8, S8 = zup S7 1154 (S4 416 66).toNatClampNeg x2 →
    vp_in (S4 416 66) 120 ∧
    ∀ S9, S9 = zup S8 1155 (S4 416 66).toNatClampNeg (S8 416 1) →
    vp_in (S4 416 66) 120 ∧
    ∀ S10, S10 = zup S9 1156 (S4 416 66).toNatClampNeg x3 →
    vp_in (S4 416 66) 120 ∧
    ∀ S11, S11 = zup S10 1157 (S4 416 66).toNatClampNeg x4 →
    vp_in (S4 416 66) 120 ∧
    zok .boolean x5 ∧
    ∀ S12, S12 = zup S11 2158 (S4 416 66).toNatClampNeg x5 →
    vp_in (S4 416 66) 120 ∧
    ∀ S13, S13 = zup S12 1159 (S4 416 66).toNatClampNeg (S12 416 23) →
    vp_in (S4 416 66) 120 ∧
    ∀ S14, S14 = zup S13 1160 (S4 416 66).toNatClampNeg (S13 416 24) →
    vp_in (S4 416 66) 120 ∧
    ∀ S15, S15 = zup S14 1161 (S4 416 66).toNatClampNeg (S14 416 25) →
    vp_in (S4 416 66) 120 ∧
    ∀ S16, S16 = zup S15 1162 (S4 416 66).toNatClampNeg (S15 416 26) →
    vp_in (S4 416 66) 120 ∧
    zok .boolean (S16 416 28) ∧
    ∀ S17, S17 = zup S16 2163 (S4 416 66).toNatClampNeg (S16 416 28) →
    vp_in (S4 416 66) 120 ∧
    ∀ S18, S18 = zup S17 1164 (S4 416 66).toNatClampNeg (S17 416 27) →
    rcV E l mX12_sets d [.int (S4 416 66), .int 0, .int 0] S18 k5 (fun S19 k20 =>
    rcV E l mX12_sets d [.int (S4 416 66), .int 1, .int (-1)] S19 k20 (fun S21 k22 =>
    rcV E l mX12_sets d [.int (S4 416 66), .int 2, .int (-1)] S21 k22 (fun S23 k24 =>
    rcV E l mX12_sets d [.int (S4 416 66), .int 3, .int (-1)] S23 k24 (fun S25 k26 =>
    rcV E l mX12_sets d [.int (S4 416 66), .int 4, .int (-1)] S25 k26 (fun S27 k28 =>
    ∀ S29, S29 = zup S27 416 72 ((S27 416 72) + (S27 416 24)) →
    Q (some (.int (S4 416 66))) S29))))))) ∧
  (¬ (y3 = 0) →
    Q (some (.int 0)) S1)))
theorem rwpt_X12_ask_67 {E : ZE} {l : Launch} {d b : Nat} {A G : ZG} {Q : Option Value → ZS9 → Prop} {k : Nat} {x1 : Int32} {x2 : Int32} {x3 : Int32} {x4 : Int32} {x5 : Int32} {s0 : Int32} {S : ZS9} (hK : RK G) (h : rwp_X12_ask_67 E l d b A G Q k x1 x2 x3 x4 x5 s0 S) : zW E l mX12_ask d b A (rQ G Q) k 67 [some (.ref (zp 416 0)), some (.int x1), some (.int x2), some (.int x3), some (.int x4), some (.int x5), none] [.int s0, .ref (zp 416 0)] (zput G S) := by
  unfold rwp_X12_ask_67 at h
  refine z_iconst (x := 3) (pc' := 68) dX12_ask_67 (by decide) rfl ?_
  refine r_callI (Y := mX12_throwsIf) (n := 2) (as := [.int s0, .int 3]) (st := []) (pc' := 71) h hK dX12_ask_68 kX12_321 vX12_throwsIf rfl rfl rfl (Nat.le_of_ble_eq_true rfl) (fun y3 S1 k2 h => ?_)
  refine z_if_eq (pt := 76) (pc' := 74) dX12_ask_71 (by decide) rfl (fun hc => ?_) (fun hc => ?_)
  · have h := h.1 hc
    refine z_aload_n (pc' := 77) dX12_ask_76 rfl rfl ?_
    refine z_iload_n (pc' := 78) dX12_ask_77 rfl rfl ?_
    refine z_iload_n (pc' := 79) dX12_ask_78 rfl rfl ?_
    refine z_iload_n (pc' := 80) dX12_ask_79 rfl rfl ?_
    refine z_iload (pc' := 82) dX12_ask_80 rfl rfl ?_
    refine r_callV (Y := mX12_judges) (n := 4) (as := [.int x1, .int x2, .int x3, .int x5]) (st := []) (pc' := 85) h hK dX12_ask_82 kX12_421 vX12_judges rfl rfl rfl (Nat.le_of_ble_eq_true rfl) (fun S4 k5 h => ?_)
    refine z_aload_n (pc' := 86) dX12_ask_85 rfl rfl ?_
    refine r_getI (kf := 66) (pc' := 89) hK dX12_ask_86 kX12_412 rfl (by decide) (by decide) rfl ?_
    refine z_istore (pc' := 91) dX12_ask_89 (by decide) rfl ?_
    refine z_aload_n (pc' := 92) dX12_ask_91 rfl rfl ?_
    refine z_dup (pc' := 93) dX12_ask_92 rfl rfl ?_
    refine r_getI (kf := 66) (pc' := 96) hK dX12_ask_93 kX12_412 rfl (by decide) (by decide) rfl ?_
    refine z_iconst (x := 1) (pc' := 97) dX12_ask_96 (by decide) rfl ?_
    refine z_iadd (pc' := 98) dX12_ask_97 rfl rfl ?_
    obtain ⟨S6, hG⟩ : ∃ z, z = zup S4 416 66 ((S4 416 66) + 1) := ⟨_, rfl⟩
    have h := h _ hG
    refine r_putI (kf := 66) (pc' := 101) hK dX12_ask_98 kX12_412 rfl (by decide) (by decide) rfl rfl (zok_int _) ?_
    refine r_st hG ?_
    refine z_aload_n (pc' := 102) dX12_ask_101 rfl rfl ?_
    refine r_getA (kf := 53) (pc' := 105) hK rt_53 dX12_ask_102 kX12_112 rfl (by decide) (by decide) rfl ?_
    refine z_iload (pc' := 107) dX12_ask_105 rfl rfl ?_
    refine z_iload_n (pc' := 108) dX12_ask_107 rfl rfl ?_
    obtain ⟨h1, h⟩ := h
    obtain ⟨S7, hG⟩ : ∃ z, z = zup S6 1153 (S4 416 66).toNatClampNeg x1 := ⟨_, rfl⟩
    have h := h _ hG
    refine r_iast (pc' := 109) hK rt_53 rfl dX12_ask_108 rfl h1  ?_
    refine r_st hG ?_
    refine z_aload_n (pc' := 110) dX12_ask_109 rfl rfl ?_
    refine r_getA (kf := 54) (pc' := 113) hK rt_54 dX12_ask_110 kX12_115 rfl (by decide) (by decide) rfl ?_
    refine z_iload (pc' := 115) dX12_ask_113 rfl rfl ?_
    refine z_iload_n (pc' := 116) dX12_ask_115 rfl rfl ?_
    obtain ⟨h1, h⟩ := h
    obtain ⟨S8, hG⟩ : ∃ z, z = zup S7 1154 (S4 416 66).toNatClampNeg x2 := ⟨_, rfl⟩
    have h := h _ hG
    refine r_iast (pc' := 117) hK rt_54 rfl dX12_ask_116 rfl h1  ?_
    refine r_st hG ?_
    refine z_aload_n (pc' := 118) dX12_ask_117 rfl rfl ?_
    refine r_getA (kf := 55) (pc' := 121) hK rt_55 dX12_ask_118 kX12_118 rfl (by decide) (by decide) rfl ?_
    refine z_iload (pc' := 123) dX12_ask_121 rfl rfl ?_
    refine z_aload_n (pc' := 124) dX12_ask_123 rfl rfl ?_
    refine r_getI (kf := 1) (pc' := 127) hK dX12_ask_124 kX12_314 rfl (by decide) (by decide) rfl ?_
    obtain ⟨h1, h⟩ := h
    obtain ⟨S9, hG⟩ : ∃ z, z = zup S8 1155 (S4 416 66).toNatClampNeg (S8 416 1) := ⟨_, rfl⟩
    have h := h _ hG
    refine r_iast (pc' := 128) hK rt_55 rfl dX12_ask_127 rfl h1  ?_
    refine r_st hG ?_
    refine z_aload_n (pc' := 129) dX12_ask_128 rfl rfl ?_
    refine r_getA (kf := 56) (pc' := 132) hK rt_56 dX12_ask_129 kX12_121 rfl (by decide) (by decide) rfl ?_
    refine z_iload (pc' := 134) dX12_ask_132 rfl rfl ?_
    refine z_iload_n (pc' := 135) dX12_ask_134 rfl rfl ?_
    obtain ⟨h1, h⟩ := h
    obtain ⟨S10, hG⟩ : ∃ z, z = zup S9 1156 (S4 416 66).toNatClampNeg x3 := ⟨_, rfl⟩
    have h := h _ hG
    refine r_iast (pc' := 136) hK rt_56 rfl dX12_ask_135 rfl h1  ?_
    refine r_st hG ?_
    refine z_aload_n (pc' := 137) dX12_ask_136 rfl rfl ?_
    refine r_getA (kf := 57) (pc' := 140) hK rt_57 dX12_ask_137 kX12_124 rfl (by decide) (by decide) rfl ?_
    refine z_iload (pc' := 142) dX12_ask_140 rfl rfl ?_
    refine z_iload (pc' := 144) dX12_ask_142 rfl rfl ?_
    obtain ⟨h1, h⟩ := h
    obtain ⟨S11, hG⟩ : ∃ z, z = zup S10 1157 (S4 416 66).toNatClampNeg x4 := ⟨_, rfl⟩
    have h := h _ hG
    refine r_iast (pc' := 145) hK rt_57 rfl dX12_ask_144 rfl h1  ?_
    refine r_st hG ?_
    refine z_aload_n (pc' := 146) dX12_ask_145 rfl rfl ?_
    refine r_getA (kf := 58) (pc' := 149) hK rt_58 dX12_ask_146 kX12_127 rfl (by decide) (by decide) rfl ?_
    refine z_iload (pc' := 151) dX12_ask_149 rfl rfl ?_
    refine z_iload (pc' := 153) dX12_ask_151 rfl rfl ?_
    obtain ⟨h1, h⟩ := h
    obtain ⟨h3, h⟩ := h
    obtain ⟨S12, hG⟩ : ∃ z, z = zup S11 2158 (S4 416 66).toNatClampNeg x5 := ⟨_, rfl⟩
    have h := h _ hG
    refine r_zast (pc' := 154) hK rt_58 rfl dX12_ask_153 rfl h1 h3 ?_
    refine r_st hG ?_
    refine z_aload_n (pc' := 155) dX12_ask_154 rfl rfl ?_
    refine r_getA (kf := 59) (pc' := 158) hK rt_59 dX12_ask_155 kX12_130 rfl (by decide) (by decide) rfl ?_
    refine z_iload (pc' := 160) dX12_ask_158 rfl rfl ?_
    refine z_aload_n (pc' := 161) dX12_ask_160 rfl rfl ?_
    refine r_getI (kf := 23) (pc' := 164) hK dX12_ask_161 kX12_340 rfl (by decide) (by decide) rfl ?_
    obtain ⟨h1, h⟩ := h
    obtain ⟨S13, hG⟩ : ∃ z, z = zup S12 1159 (S4 416 66).toNatClampNeg (S12 416 23) := ⟨_, rfl⟩
    have h := h _ hG
    refine r_iast (pc' := 165) hK rt_59 rfl dX12_ask_164 rfl h1  ?_
    refine r_st hG ?_
    refine z_aload_n (pc' := 166) dX12_ask_165 rfl rfl ?_
    refine r_getA (kf := 60) (pc' := 169) hK rt_60 dX12_ask_166 kX12_133 rfl (by decide) (by decide) rfl ?_
    refine z_iload (pc' := 171) dX12_ask_169 rfl rfl ?_
    refine z_aload_n (pc' := 172) dX12_ask_171 rfl rfl ?_
    refine r_getI (kf := 24) (pc' := 175) hK dX12_ask_172 kX12_343 rfl (by decide) (by decide) rfl ?_
    obtain ⟨h1, h⟩ := h
    obtain ⟨S14, hG⟩ : ∃ z, z = zup S13 1160 (S4 416 66).toNatClampNeg (S13 416 24) := ⟨_, rfl⟩
    have h := h _ hG
    refine r_iast (pc' := 176) hK rt_60 rfl dX12_ask_175 rfl h1  ?_
    refine r_st hG ?_
    refine z_aload_n (pc' := 177) dX12_ask_176 rfl rfl ?_
    refine r_getA (kf := 61) (pc' := 180) hK rt_61 dX12_ask_177 kX12_136 rfl (by decide) (by decide) rfl ?_
    refine z_iload (pc' := 182) dX12_ask_180 rfl rfl ?_
    refine z_aload_n (pc' := 183) dX12_ask_182 rfl rfl ?_
    refine r_getI (kf := 25) (pc' := 186) hK dX12_ask_183 kX12_346 rfl (by decide) (by decide) rfl ?_
    obtain ⟨h1, h⟩ := h
    obtain ⟨S15, hG⟩ : ∃ z, z = zup S14 1161 (S4 416 66).toNatClampNeg (S14 416 25) := ⟨_, rfl⟩
    have h := h _ hG
    refine r_iast (pc' := 187) hK rt_61 rfl dX12_ask_186 rfl h1  ?_
    refine r_st hG ?_
    refine z_aload_n (pc' := 188) dX12_ask_187 rfl rfl ?_
    refine r_getA (kf := 62) (pc' := 191) hK rt_62 dX12_ask_188 kX12_139 rfl (by decide) (by decide) rfl ?_
    refine z_iload (pc' := 193) dX12_ask_191 rfl rfl ?_
    refine z_aload_n (pc' := 194) dX12_ask_193 rfl rfl ?_
    refine r_getI (kf := 26) (pc' := 197) hK dX12_ask_194 kX12_349 rfl (by decide) (by decide) rfl ?_
    obtain ⟨h1, h⟩ := h
    obtain ⟨S16, hG⟩ : ∃ z, z = zup S15 1162 (S4 416 66).toNatClampNeg (S15 416 26) := ⟨_, rfl⟩
    have h := h _ hG
    refine r_iast (pc' := 198) hK rt_62 rfl dX12_ask_197 rfl h1  ?_
    refine r_st hG ?_
    refine z_aload_n (pc' := 199) dX12_ask_198 rfl rfl ?_
    refine r_getA (kf := 63) (pc' := 202) hK rt_63 dX12_ask_199 kX12_142 rfl (by decide) (by decide) rfl ?_
    refine z_iload (pc' := 204) dX12_ask_202 rfl rfl ?_
    refine z_aload_n (pc' := 205) dX12_ask_204 rfl rfl ?_
    refine r_getI (kf := 28) (pc' := 208) hK dX12_ask_205 kX12_355 rfl (by decide) (by decide) rfl ?_
    obtain ⟨h1, h⟩ := h
    obtain ⟨h3, h⟩ := h
    obtain ⟨S17, hG⟩ : ∃ z, z = zup S16 2163 (S4 416 66).toNatClampNeg (S16 416 28) := ⟨_, rfl⟩
    have h := h _ hG
    refine r_zast (pc' := 209) hK rt_63 rfl dX12_ask_208 rfl h1 h3 ?_
    refine r_st hG ?_
    refine z_aload_n (pc' := 210) dX12_ask_209 rfl rfl ?_
    refine r_getA (kf := 64) (pc' := 213) hK rt_64 dX12_ask_210 kX12_145 rfl (by decide) (by decide) rfl ?_
    refine z_iload (pc' := 215) dX12_ask_213 rfl rfl ?_
    refine z_aload_n (pc' := 216) dX12_ask_215 rfl rfl ?_
    refine r_getI (kf := 27) (pc' := 219) hK dX12_ask_216 kX12_352 rfl (by decide) (by decide) rfl ?_
    obtain ⟨h1, h⟩ := h
    obtain ⟨S18, hG⟩ : ∃ z, z = zup S17 1164 (S4 416 66).toNatClampNeg (S17 416 27) := ⟨_, rfl⟩
    have h := h _ hG
    refine r_iast (pc' := 220) hK rt_64 rfl dX12_ask_219 rfl h1  ?_
    refine r_st hG ?_
    refine z_aload_n (pc' := 221) dX12_ask_220 rfl rfl ?_
    refine z_iload (pc' := 223) dX12_ask_221 rfl rfl ?_
    refine z_iconst (x := 0) (pc' := 224) dX12_ask_223 (by decide) rfl ?_
    refine z_iconst (x := 0) (pc' := 225) dX12_ask_224 (by decide) rfl ?_
    refine r_callV (Y := mX12_sets) (n := 3) (as := [.int (S4 416 66), .int 0, .int 0]) (st := []) (pc' := 228) h hK dX12_ask_225 kX12_425 vX12_sets rfl rfl rfl (Nat.le_of_ble_eq_true rfl) (fun S19 k20 h => ?_)
    refine z_aload_n (pc' := 229) dX12_ask_228 rfl rfl ?_
    refine z_iload (pc' := 231) dX12_ask_229 rfl rfl ?_
    refine z_iconst (x := 1) (pc' := 232) dX12_ask_231 (by decide) rfl ?_
    refine z_iconst (x := (-1)) (pc' := 233) dX12_ask_232 (by decide) rfl ?_
    refine r_callV (Y := mX12_sets) (n := 3) (as := [.int (S4 416 66), .int 1, .int (-1)]) (st := []) (pc' := 236) h hK dX12_ask_233 kX12_425 vX12_sets rfl rfl rfl (Nat.le_of_ble_eq_true rfl) (fun S21 k22 h => ?_)
    refine z_aload_n (pc' := 237) dX12_ask_236 rfl rfl ?_
    refine z_iload (pc' := 239) dX12_ask_237 rfl rfl ?_
    refine z_iconst (x := 2) (pc' := 240) dX12_ask_239 (by decide) rfl ?_
    refine z_iconst (x := (-1)) (pc' := 241) dX12_ask_240 (by decide) rfl ?_
    refine r_callV (Y := mX12_sets) (n := 3) (as := [.int (S4 416 66), .int 2, .int (-1)]) (st := []) (pc' := 244) h hK dX12_ask_241 kX12_425 vX12_sets rfl rfl rfl (Nat.le_of_ble_eq_true rfl) (fun S23 k24 h => ?_)
    refine z_aload_n (pc' := 245) dX12_ask_244 rfl rfl ?_
    refine z_iload (pc' := 247) dX12_ask_245 rfl rfl ?_
    refine z_iconst (x := 3) (pc' := 248) dX12_ask_247 (by decide) rfl ?_
    refine z_iconst (x := (-1)) (pc' := 249) dX12_ask_248 (by decide) rfl ?_
    refine r_callV (Y := mX12_sets) (n := 3) (as := [.int (S4 416 66), .int 3, .int (-1)]) (st := []) (pc' := 252) h hK dX12_ask_249 kX12_425 vX12_sets rfl rfl rfl (Nat.le_of_ble_eq_true rfl) (fun S25 k26 h => ?_)
    refine z_aload_n (pc' := 253) dX12_ask_252 rfl rfl ?_
    refine z_iload (pc' := 255) dX12_ask_253 rfl rfl ?_
    refine z_iconst (x := 4) (pc' := 256) dX12_ask_255 (by decide) rfl ?_
    refine z_iconst (x := (-1)) (pc' := 257) dX12_ask_256 (by decide) rfl ?_
    refine r_callV (Y := mX12_sets) (n := 3) (as := [.int (S4 416 66), .int 4, .int (-1)]) (st := []) (pc' := 260) h hK dX12_ask_257 kX12_425 vX12_sets rfl rfl rfl (Nat.le_of_ble_eq_true rfl) (fun S27 k28 h => ?_)
    refine z_aload_n (pc' := 261) dX12_ask_260 rfl rfl ?_
    refine z_dup (pc' := 262) dX12_ask_261 rfl rfl ?_
    refine r_getI (kf := 72) (pc' := 265) hK dX12_ask_262 kX12_428 rfl (by decide) (by decide) rfl ?_
    refine z_aload_n (pc' := 266) dX12_ask_265 rfl rfl ?_
    refine r_getI (kf := 24) (pc' := 269) hK dX12_ask_266 kX12_343 rfl (by decide) (by decide) rfl ?_
    refine z_iadd (pc' := 270) dX12_ask_269 rfl rfl ?_
    obtain ⟨S29, hG⟩ : ∃ z, z = zup S27 416 72 ((S27 416 72) + (S27 416 24)) := ⟨_, rfl⟩
    have h := h _ hG
    refine r_putI (kf := 72) (pc' := 273) hK dX12_ask_270 kX12_428 rfl (by decide) (by decide) rfl rfl (zok_int _) ?_
    refine r_st hG ?_
    refine z_iload (pc' := 275) dX12_ask_273 rfl rfl ?_
    exact z_iret dX12_ask_275 rfl ⟨_, _, rfl, rfl, h⟩
  · have h := h.2 hc
    refine z_iconst (x := 0) (pc' := 75) dX12_ask_74 (by decide) rfl ?_
    exact z_iret dX12_ask_75 rfl ⟨_, _, rfl, rfl, h⟩
def rwp_X12_blanks_0 (E : ZE) (l : Launch) (d b : Nat) (A G : ZG) (Q : Option Value → ZS9 → Prop) (k : Nat) (x1 : Int32) (S : ZS9) : Prop :=
  ∀ S1, S1 = zup S 416 0 0 →
  scI E l mX12_in d [.int x1, .int 0, .int 1000] (fun y2 =>
  ((y2 = 0 →
    zW E l mX12_blanks d b A (rQ G Q) k 29 [some (.ref (zp 416 0)), some (.int x1)] [.ref (zp 416 0)] (zput G S1)) ∧
  (¬ (y2 = 0) →
    ((((S1 416 43) + x1) ≤ 10000 →
      rcI E l mX12_throwsIf d [.int 0, .int 1] S1 k (fun y5 S3 k4 =>
      ((y5 = 0 →
        ∀ S6, S6 = zup S3 416 43 ((S3 416 43) + x1) →
        Q (some (.int (S6 416 43))) S6) ∧
      (¬ (y5 = 0) →
        Q (some (.int 0)) S3)))) ∧
    (¬ (((S1 416 43) + x1) ≤ 10000) →
      zW E l mX12_blanks d b A (rQ G Q) k 29 [some (.ref (zp 416 0)), some (.int x1)] [.ref (zp 416 0)] (zput G S1))))))
theorem rwpt_X12_blanks_0 {E : ZE} {l : Launch} {d b : Nat} {A G : ZG} {Q : Option Value → ZS9 → Prop} {k : Nat} {x1 : Int32} {S : ZS9} (hK : RK G) (h : rwp_X12_blanks_0 E l d b A G Q k x1 S) : zW E l mX12_blanks d b A (rQ G Q) k 0 [some (.ref (zp 416 0)), some (.int x1)] [] (zput G S) := by
  unfold rwp_X12_blanks_0 at h
  refine z_aload_n (pc' := 1) dX12_blanks_0 rfl rfl ?_
  refine z_iconst (x := 0) (pc' := 2) dX12_blanks_1 (by decide) rfl ?_
  obtain ⟨S1, hG⟩ : ∃ z, z = zup S 416 0 0 := ⟨_, rfl⟩
  have h := h _ hG
  refine r_putI (kf := 0) (pc' := 5) hK dX12_blanks_2 kX12_178 rfl (by decide) (by decide) rfl rfl (zok_int _) ?_
  refine r_st hG ?_
  refine z_aload_n (pc' := 6) dX12_blanks_5 rfl rfl ?_
  refine z_iload_n (pc' := 7) dX12_blanks_6 rfl rfl ?_
  refine z_iconst (x := 0) (pc' := 8) dX12_blanks_7 (by decide) rfl ?_
  refine z_sipush (x := 1000) (pc' := 11) dX12_blanks_8 (by decide) rfl ?_
  refine r_callSI (Y := mX12_in) (n := 3) (as := [.int x1, .int 0, .int 1000]) (st := [.ref (zp 416 0)]) (pc' := 14) h dX12_blanks_11 kX12_317 sX12_in rfl rfl (Nat.le_of_ble_eq_true rfl) (fun y2 h => ?_)
  refine z_if_eq (pt := 29) (pc' := 17) dX12_blanks_14 (by decide) rfl (fun hc => ?_) (fun hc => ?_)
  · have h := h.1 hc
    exact z_dr (ls' := [some (.ref (zp 416 0)), some (.int x1)]) ⟨rfl, rfl, trivial⟩ h
  · have h := h.2 hc
    refine z_aload_n (pc' := 18) dX12_blanks_17 rfl rfl ?_
    refine r_getI (kf := 43) (pc' := 21) hK dX12_blanks_18 kX12_406 rfl (by decide) (by decide) rfl ?_
    refine z_iload_n (pc' := 22) dX12_blanks_21 rfl rfl ?_
    refine z_iadd (pc' := 23) dX12_blanks_22 rfl rfl ?_
    refine z_sipush (x := 10000) (pc' := 26) dX12_blanks_23 (by decide) rfl ?_
    refine z_icmp_le (pt := 33) (pc' := 29) dX12_blanks_26 (by decide) rfl (fun hc => ?_) (fun hc => ?_)
    · have h := h.1 hc
      refine z_iconst (x := 0) (pc' := 34) dX12_blanks_33 (by decide) rfl ?_
      refine z_iconst (x := 1) (pc' := 35) dX12_blanks_34 (by decide) rfl ?_
      refine r_callI (Y := mX12_throwsIf) (n := 2) (as := [.int 0, .int 1]) (st := []) (pc' := 38) h hK dX12_blanks_35 kX12_321 vX12_throwsIf rfl rfl rfl (Nat.le_of_ble_eq_true rfl) (fun y5 S3 k4 h => ?_)
      refine z_if_eq (pt := 43) (pc' := 41) dX12_blanks_38 (by decide) rfl (fun hc => ?_) (fun hc => ?_)
      · have h := h.1 hc
        refine z_aload_n (pc' := 44) dX12_blanks_43 rfl rfl ?_
        refine z_dup (pc' := 45) dX12_blanks_44 rfl rfl ?_
        refine r_getI (kf := 43) (pc' := 48) hK dX12_blanks_45 kX12_406 rfl (by decide) (by decide) rfl ?_
        refine z_iload_n (pc' := 49) dX12_blanks_48 rfl rfl ?_
        refine z_iadd (pc' := 50) dX12_blanks_49 rfl rfl ?_
        obtain ⟨S6, hG⟩ : ∃ z, z = zup S3 416 43 ((S3 416 43) + x1) := ⟨_, rfl⟩
        have h := h _ hG
        refine r_putI (kf := 43) (pc' := 53) hK dX12_blanks_50 kX12_406 rfl (by decide) (by decide) rfl rfl (zok_int _) ?_
        refine r_st hG ?_
        refine z_aload_n (pc' := 54) dX12_blanks_53 rfl rfl ?_
        refine r_getI (kf := 43) (pc' := 57) hK dX12_blanks_54 kX12_406 rfl (by decide) (by decide) rfl ?_
        exact z_iret dX12_blanks_57 rfl ⟨_, _, rfl, rfl, h⟩
      · have h := h.2 hc
        refine z_iconst (x := 0) (pc' := 42) dX12_blanks_41 (by decide) rfl ?_
        exact z_iret dX12_blanks_42 rfl ⟨_, _, rfl, rfl, h⟩
    · have h := h.2 hc
      exact z_dr (ls' := [some (.ref (zp 416 0)), some (.int x1)]) ⟨rfl, rfl, trivial⟩ h
def rwp_X12_blanks_29 (E : ZE) (l : Launch) (d b : Nat) (A G : ZG) (Q : Option Value → ZS9 → Prop) (k : Nat) (x1 : Int32) (S : ZS9) : Prop :=
  rcI E l mX12_throwsIf d [.int 1, .int 1] S k (fun y3 S1 k2 =>
  ((y3 = 0 →
    ∀ S4, S4 = zup S1 416 43 ((S1 416 43) + x1) →
    Q (some (.int (S4 416 43))) S4) ∧
  (¬ (y3 = 0) →
    Q (some (.int 0)) S1)))
theorem rwpt_X12_blanks_29 {E : ZE} {l : Launch} {d b : Nat} {A G : ZG} {Q : Option Value → ZS9 → Prop} {k : Nat} {x1 : Int32} {S : ZS9} (hK : RK G) (h : rwp_X12_blanks_29 E l d b A G Q k x1 S) : zW E l mX12_blanks d b A (rQ G Q) k 29 [some (.ref (zp 416 0)), some (.int x1)] [.ref (zp 416 0)] (zput G S) := by
  unfold rwp_X12_blanks_29 at h
  refine z_iconst (x := 1) (pc' := 30) dX12_blanks_29 (by decide) rfl ?_
  refine z_goto (pc' := 34) dX12_blanks_30 (by decide) ?_
  refine z_iconst (x := 1) (pc' := 35) dX12_blanks_34 (by decide) rfl ?_
  refine r_callI (Y := mX12_throwsIf) (n := 2) (as := [.int 1, .int 1]) (st := []) (pc' := 38) h hK dX12_blanks_35 kX12_321 vX12_throwsIf rfl rfl rfl (Nat.le_of_ble_eq_true rfl) (fun y3 S1 k2 h => ?_)
  refine z_if_eq (pt := 43) (pc' := 41) dX12_blanks_38 (by decide) rfl (fun hc => ?_) (fun hc => ?_)
  · have h := h.1 hc
    refine z_aload_n (pc' := 44) dX12_blanks_43 rfl rfl ?_
    refine z_dup (pc' := 45) dX12_blanks_44 rfl rfl ?_
    refine r_getI (kf := 43) (pc' := 48) hK dX12_blanks_45 kX12_406 rfl (by decide) (by decide) rfl ?_
    refine z_iload_n (pc' := 49) dX12_blanks_48 rfl rfl ?_
    refine z_iadd (pc' := 50) dX12_blanks_49 rfl rfl ?_
    obtain ⟨S4, hG⟩ : ∃ z, z = zup S1 416 43 ((S1 416 43) + x1) := ⟨_, rfl⟩
    have h := h _ hG
    refine r_putI (kf := 43) (pc' := 53) hK dX12_blanks_50 kX12_406 rfl (by decide) (by decide) rfl rfl (zok_int _) ?_
    refine r_st hG ?_
    refine z_aload_n (pc' := 54) dX12_blanks_53 rfl rfl ?_
    refine r_getI (kf := 43) (pc' := 57) hK dX12_blanks_54 kX12_406 rfl (by decide) (by decide) rfl ?_
    exact z_iret dX12_blanks_57 rfl ⟨_, _, rfl, rfl, h⟩
  · have h := h.2 hc
    refine z_iconst (x := 0) (pc' := 42) dX12_blanks_41 (by decide) rfl ?_
    exact z_iret dX12_blanks_42 rfl ⟨_, _, rfl, rfl, h⟩
def rwp_X12_blanksBetween_0 (E : ZE) (l : Launch) (d b : Nat) (A G : ZG) (Q : Option Value → ZS9 → Prop) (k : Nat)  (S : ZS9) : Prop :=
  rcI E l mX12_isAt d [.int 32, .int 32] S k (fun y3 S1 k2 =>
  ((y3 = 0 →
    ∀ S4, S4 = zup S1 416 6 (S1 416 4) →
    Q none S4) ∧
  (¬ (y3 = 0) →
    ∀ S5, S5 = zup S1 416 4 ((S1 416 4) + 1) →
    zW E l mX12_blanksBetween d b A (rQ G Q) k2 0 [some (.ref (zp 416 0))] [] (zput G S5))))
theorem rwpt_X12_blanksBetween_0 {E : ZE} {l : Launch} {d b : Nat} {A G : ZG} {Q : Option Value → ZS9 → Prop} {k : Nat}  {S : ZS9} (hK : RK G) (h : rwp_X12_blanksBetween_0 E l d b A G Q k  S) : zW E l mX12_blanksBetween d b A (rQ G Q) k 0 [some (.ref (zp 416 0))] [] (zput G S) := by
  unfold rwp_X12_blanksBetween_0 at h
  refine z_aload_n (pc' := 1) dX12_blanksBetween_0 rfl rfl ?_
  refine z_bipush (x := 32) (pc' := 3) dX12_blanksBetween_1 (by decide) rfl ?_
  refine z_bipush (x := 32) (pc' := 5) dX12_blanksBetween_3 (by decide) rfl ?_
  refine r_callI (Y := mX12_isAt) (n := 2) (as := [.int 32, .int 32]) (st := []) (pc' := 8) h hK dX12_blanksBetween_5 kX12_190 vX12_isAt rfl rfl rfl (Nat.le_of_ble_eq_true rfl) (fun y3 S1 k2 h => ?_)
  refine z_if_eq (pt := 24) (pc' := 11) dX12_blanksBetween_8 (by decide) rfl (fun hc => ?_) (fun hc => ?_)
  · have h := h.1 hc
    refine z_aload_n (pc' := 25) dX12_blanksBetween_24 rfl rfl ?_
    refine z_aload_n (pc' := 26) dX12_blanksBetween_25 rfl rfl ?_
    refine r_getI (kf := 4) (pc' := 29) hK dX12_blanksBetween_26 kX12_187 rfl (by decide) (by decide) rfl ?_
    obtain ⟨S4, hG⟩ : ∃ z, z = zup S1 416 6 (S1 416 4) := ⟨_, rfl⟩
    have h := h _ hG
    refine r_putI (kf := 6) (pc' := 32) hK dX12_blanksBetween_29 kX12_194 rfl (by decide) (by decide) rfl rfl (zok_int _) ?_
    refine r_st hG ?_
    exact z_vret dX12_blanksBetween_32 rfl ⟨_, _, rfl, rfl, h⟩
  · have h := h.2 hc
    refine z_aload_n (pc' := 12) dX12_blanksBetween_11 rfl rfl ?_
    refine z_dup (pc' := 13) dX12_blanksBetween_12 rfl rfl ?_
    refine r_getI (kf := 4) (pc' := 16) hK dX12_blanksBetween_13 kX12_187 rfl (by decide) (by decide) rfl ?_
    refine z_iconst (x := 1) (pc' := 17) dX12_blanksBetween_16 (by decide) rfl ?_
    refine z_iadd (pc' := 18) dX12_blanksBetween_17 rfl rfl ?_
    obtain ⟨S5, hG⟩ : ∃ z, z = zup S1 416 4 ((S1 416 4) + 1) := ⟨_, rfl⟩
    have h := h _ hG
    refine r_putI (kf := 4) (pc' := 21) hK dX12_blanksBetween_18 kX12_187 rfl (by decide) (by decide) rfl rfl (zok_int _) ?_
    refine r_st hG ?_
    refine z_goto (pc' := 0) dX12_blanksBetween_21 (by decide) ?_
    exact z_dr (ls' := [some (.ref (zp 416 0))]) ⟨rfl, trivial⟩ h
def rwp_X12_booklet_0 (E : ZE) (l : Launch) (d b : Nat) (A G : ZG) (Q : Option Value → ZS9 → Prop) (k : Nat) (x1 : Int32) (x2 : Int32) (S : ZS9) : Prop :=
  ∀ S1, S1 = zup S 416 0 0 →
  scI E l mX12_in d [.int x1, .int 0, .int ((S1 416 71) - 1)] (fun y2 =>
  ((¬ y2 = 0 →
    zW E l mX12_booklet d b A (rQ G Q) k 25 [some (.ref (zp 416 0)), some (.int x1), some (.int x2)] [.int 0, .ref (zp 416 0)] (zput G S1)) ∧
  (¬ (¬ y2 = 0) →
    zW E l mX12_booklet d b A (rQ G Q) k 25 [some (.ref (zp 416 0)), some (.int x1), some (.int x2)] [.int 1, .ref (zp 416 0)] (zput G S1))))
theorem rwpt_X12_booklet_0 {E : ZE} {l : Launch} {d b : Nat} {A G : ZG} {Q : Option Value → ZS9 → Prop} {k : Nat} {x1 : Int32} {x2 : Int32} {S : ZS9} (hK : RK G) (h : rwp_X12_booklet_0 E l d b A G Q k x1 x2 S) : zW E l mX12_booklet d b A (rQ G Q) k 0 [some (.ref (zp 416 0)), some (.int x1), some (.int x2)] [] (zput G S) := by
  unfold rwp_X12_booklet_0 at h
  refine z_aload_n (pc' := 1) dX12_booklet_0 rfl rfl ?_
  refine z_iconst (x := 0) (pc' := 2) dX12_booklet_1 (by decide) rfl ?_
  obtain ⟨S1, hG⟩ : ∃ z, z = zup S 416 0 0 := ⟨_, rfl⟩
  have h := h _ hG
  refine r_putI (kf := 0) (pc' := 5) hK dX12_booklet_2 kX12_178 rfl (by decide) (by decide) rfl rfl (zok_int _) ?_
  refine r_st hG ?_
  refine z_aload_n (pc' := 6) dX12_booklet_5 rfl rfl ?_
  refine z_iload_n (pc' := 7) dX12_booklet_6 rfl rfl ?_
  refine z_iconst (x := 0) (pc' := 8) dX12_booklet_7 (by decide) rfl ?_
  refine z_aload_n (pc' := 9) dX12_booklet_8 rfl rfl ?_
  refine r_getI (kf := 71) (pc' := 12) hK dX12_booklet_9 kX12_415 rfl (by decide) (by decide) rfl ?_
  refine z_iconst (x := 1) (pc' := 13) dX12_booklet_12 (by decide) rfl ?_
  refine z_isub (pc' := 14) dX12_booklet_13 rfl rfl ?_
  refine r_callSI (Y := mX12_in) (n := 3) (as := [.int x1, .int 0, .int ((S1 416 71) - 1)]) (st := [.ref (zp 416 0)]) (pc' := 17) h dX12_booklet_14 kX12_317 sX12_in rfl rfl (Nat.le_of_ble_eq_true rfl) (fun y2 h => ?_)
  refine z_if_ne (pt := 24) (pc' := 20) dX12_booklet_17 (by decide) rfl (fun hc => ?_) (fun hc => ?_)
  · have h := h.1 hc
    refine z_iconst (x := 0) (pc' := 25) dX12_booklet_24 (by decide) rfl ?_
    exact z_dr (ls' := [some (.ref (zp 416 0)), some (.int x1), some (.int x2)]) ⟨rfl, rfl, rfl, trivial⟩ h
  · have h := h.2 hc
    refine z_iconst (x := 1) (pc' := 21) dX12_booklet_20 (by decide) rfl ?_
    refine z_goto (pc' := 25) dX12_booklet_21 (by decide) ?_
    exact z_dr (ls' := [some (.ref (zp 416 0)), some (.int x1), some (.int x2)]) ⟨rfl, rfl, rfl, trivial⟩ h
def rwp_X12_booklet_25 (E : ZE) (l : Launch) (d b : Nat) (A G : ZG) (Q : Option Value → ZS9 → Prop) (k : Nat) (x1 : Int32) (x2 : Int32) (s0 : Int32) (S : ZS9) : Prop :=
  rcI E l mX12_throwsIf d [.int s0, .int 1] S k (fun y3 S1 k2 =>
  ((y3 = 0 →
    ((x2 = 0 →
      vp_in x1 150 ∧
      Q (some (.int (S1 1167 x1.toNatClampNeg))) S1) ∧
    ((x2 = 1 →
      vp_in x1 150 ∧
      Q (some (.int (S1 1168 x1.toNatClampNeg))) S1) ∧
    ((x2 = 2 →
      vp_in x1 150 ∧
      Q (some (.int (S1 1169 x1.toNatClampNeg))) S1) ∧
    ((x2 = 3 →
      vp_in x1 150 ∧
      Q (some (.int (S1 1170 x1.toNatClampNeg))) S1) ∧
    (¬ x2 = 0 → ¬ x2 = 1 → ¬ x2 = 2 → ¬ x2 = 3 →
      ∀ S4, S4 = zup S1 416 0 2 →
      Q (some (.int 0)) S4)))))) ∧
  (¬ (y3 = 0) →
    Q (some (.int 0)) S1)))
theorem rwpt_X12_booklet_25 {E : ZE} {l : Launch} {d b : Nat} {A G : ZG} {Q : Option Value → ZS9 → Prop} {k : Nat} {x1 : Int32} {x2 : Int32} {s0 : Int32} {S : ZS9} (hK : RK G) (h : rwp_X12_booklet_25 E l d b A G Q k x1 x2 s0 S) : zW E l mX12_booklet d b A (rQ G Q) k 25 [some (.ref (zp 416 0)), some (.int x1), some (.int x2)] [.int s0, .ref (zp 416 0)] (zput G S) := by
  unfold rwp_X12_booklet_25 at h
  refine z_iconst (x := 1) (pc' := 26) dX12_booklet_25 (by decide) rfl ?_
  refine r_callI (Y := mX12_throwsIf) (n := 2) (as := [.int s0, .int 1]) (st := []) (pc' := 29) h hK dX12_booklet_26 kX12_321 vX12_throwsIf rfl rfl rfl (Nat.le_of_ble_eq_true rfl) (fun y3 S1 k2 h => ?_)
  refine z_if_eq (pt := 34) (pc' := 32) dX12_booklet_29 (by decide) rfl (fun hc => ?_) (fun hc => ?_)
  · have h := h.1 hc
    refine z_iload_n (pc' := 35) dX12_booklet_34 rfl rfl ?_
    by_cases hc0 : x2 = 0
    · have h := h.1 hc0
      refine z_tableIn (off := 29) (pt := 64) dX12_booklet_35 (by rw [hc0]; decide) (by rw [hc0]; decide) (by rw [hc0]; decide) (by decide) ?_
      refine z_aload_n (pc' := 65) dX12_booklet_64 rfl rfl ?_
      refine r_getA (kf := 67) (pc' := 68) hK rt_67 dX12_booklet_65 kX12_151 rfl (by decide) (by decide) rfl ?_
      refine z_iload_n (pc' := 69) dX12_booklet_68 rfl rfl ?_
      obtain ⟨h1, h⟩ := h
      refine r_iald (pc' := 70) hK rt_67 rfl dX12_booklet_69 rfl h1 ?_
      exact z_iret dX12_booklet_70 rfl ⟨_, _, rfl, rfl, h⟩
    have h := h.2
    by_cases hc1 : x2 = 1
    · have h := h.1 hc1
      refine z_tableIn (off := 36) (pt := 71) dX12_booklet_35 (by rw [hc1]; decide) (by rw [hc1]; decide) (by rw [hc1]; decide) (by decide) ?_
      refine z_aload_n (pc' := 72) dX12_booklet_71 rfl rfl ?_
      refine r_getA (kf := 68) (pc' := 75) hK rt_68 dX12_booklet_72 kX12_154 rfl (by decide) (by decide) rfl ?_
      refine z_iload_n (pc' := 76) dX12_booklet_75 rfl rfl ?_
      obtain ⟨h1, h⟩ := h
      refine r_iald (pc' := 77) hK rt_68 rfl dX12_booklet_76 rfl h1 ?_
      exact z_iret dX12_booklet_77 rfl ⟨_, _, rfl, rfl, h⟩
    have h := h.2
    by_cases hc2 : x2 = 2
    · have h := h.1 hc2
      refine z_tableIn (off := 43) (pt := 78) dX12_booklet_35 (by rw [hc2]; decide) (by rw [hc2]; decide) (by rw [hc2]; decide) (by decide) ?_
      refine z_aload_n (pc' := 79) dX12_booklet_78 rfl rfl ?_
      refine r_getA (kf := 69) (pc' := 82) hK rt_69 dX12_booklet_79 kX12_157 rfl (by decide) (by decide) rfl ?_
      refine z_iload_n (pc' := 83) dX12_booklet_82 rfl rfl ?_
      obtain ⟨h1, h⟩ := h
      refine r_iald (pc' := 84) hK rt_69 rfl dX12_booklet_83 rfl h1 ?_
      exact z_iret dX12_booklet_84 rfl ⟨_, _, rfl, rfl, h⟩
    have h := h.2
    by_cases hc3 : x2 = 3
    · have h := h.1 hc3
      refine z_tableIn (off := 50) (pt := 85) dX12_booklet_35 (by rw [hc3]; decide) (by rw [hc3]; decide) (by rw [hc3]; decide) (by decide) ?_
      refine z_aload_n (pc' := 86) dX12_booklet_85 rfl rfl ?_
      refine r_getA (kf := 70) (pc' := 89) hK rt_70 dX12_booklet_86 kX12_160 rfl (by decide) (by decide) rfl ?_
      refine z_iload_n (pc' := 90) dX12_booklet_89 rfl rfl ?_
      obtain ⟨h1, h⟩ := h
      refine r_iald (pc' := 91) hK rt_70 rfl dX12_booklet_90 rfl h1 ?_
      exact z_iret dX12_booklet_91 rfl ⟨_, _, rfl, rfl, h⟩
    have h := h.2
    have h := h hc0 hc1 hc2 hc3
    refine z_tableOut (pt := 92) dX12_booklet_35 (by have e0 := lv_neT (a := 0) hc0 (by decide); have e1 := lv_neT (a := 1) hc1 (by decide); have e2 := lv_neT (a := 2) hc2 (by decide); have e3 := lv_neT (a := 3) hc3 (by decide); omega) (by decide) ?_
    refine z_aload_n (pc' := 93) dX12_booklet_92 rfl rfl ?_
    refine z_iconst (x := 2) (pc' := 94) dX12_booklet_93 (by decide) rfl ?_
    obtain ⟨S4, hG⟩ : ∃ z, z = zup S1 416 0 2 := ⟨_, rfl⟩
    have h := h _ hG
    refine r_putI (kf := 0) (pc' := 97) hK dX12_booklet_94 kX12_178 rfl (by decide) (by decide) rfl rfl (zok_int _) ?_
    refine r_st hG ?_
    refine z_iconst (x := 0) (pc' := 98) dX12_booklet_97 (by decide) rfl ?_
    exact z_iret dX12_booklet_98 rfl ⟨_, _, rfl, rfl, h⟩
  · have h := h.2 hc
    refine z_iconst (x := 0) (pc' := 33) dX12_booklet_32 (by decide) rfl ?_
    exact z_iret dX12_booklet_33 rfl ⟨_, _, rfl, rfl, h⟩
def rwp_X12_broken_0 (E : ZE) (l : Launch) (d b : Nat) (A G : ZG) (Q : Option Value → ZS9 → Prop) (k : Nat) (x1 : Int32) (x2 : Int32) (S : ZS9) : Prop :=
  ∀ S1, S1 = zup S 416 0 0 →
  ((x1 ≤ x2 →
    rcI E l mX12_throwsIf d [.int 0, .int 1] S1 k (fun y4 S2 k3 =>
    ((y4 = 0 →
      ∀ S5, S5 = zup S2 416 44 x1 →
      ∀ S6, S6 = zup S5 416 45 x2 →
      Q none S6) ∧
    (¬ (y4 = 0) →
      Q none S2)))) ∧
  (¬ (x1 ≤ x2) →
    rcI E l mX12_throwsIf d [.int 1, .int 1] S1 k (fun y9 S7 k8 =>
    ((y9 = 0 →
      ∀ S10, S10 = zup S7 416 44 x1 →
      ∀ S11, S11 = zup S10 416 45 x2 →
      Q none S11) ∧
    (¬ (y9 = 0) →
      Q none S7)))))
theorem rwpt_X12_broken_0 {E : ZE} {l : Launch} {d b : Nat} {A G : ZG} {Q : Option Value → ZS9 → Prop} {k : Nat} {x1 : Int32} {x2 : Int32} {S : ZS9} (hK : RK G) (h : rwp_X12_broken_0 E l d b A G Q k x1 x2 S) : zW E l mX12_broken d b A (rQ G Q) k 0 [some (.ref (zp 416 0)), some (.int x1), some (.int x2)] [] (zput G S) := by
  unfold rwp_X12_broken_0 at h
  refine z_aload_n (pc' := 1) dX12_broken_0 rfl rfl ?_
  refine z_iconst (x := 0) (pc' := 2) dX12_broken_1 (by decide) rfl ?_
  obtain ⟨S1, hG⟩ : ∃ z, z = zup S 416 0 0 := ⟨_, rfl⟩
  have h := h _ hG
  refine r_putI (kf := 0) (pc' := 5) hK dX12_broken_2 kX12_178 rfl (by decide) (by decide) rfl rfl (zok_int _) ?_
  refine r_st hG ?_
  refine z_aload_n (pc' := 6) dX12_broken_5 rfl rfl ?_
  refine z_iload_n (pc' := 7) dX12_broken_6 rfl rfl ?_
  refine z_iload_n (pc' := 8) dX12_broken_7 rfl rfl ?_
  refine z_icmp_le (pt := 15) (pc' := 11) dX12_broken_8 (by decide) rfl (fun hc => ?_) (fun hc => ?_)
  · have h := h.1 hc
    refine z_iconst (x := 0) (pc' := 16) dX12_broken_15 (by decide) rfl ?_
    refine z_iconst (x := 1) (pc' := 17) dX12_broken_16 (by decide) rfl ?_
    refine r_callI (Y := mX12_throwsIf) (n := 2) (as := [.int 0, .int 1]) (st := []) (pc' := 20) h hK dX12_broken_17 kX12_321 vX12_throwsIf rfl rfl rfl (Nat.le_of_ble_eq_true rfl) (fun y4 S2 k3 h => ?_)
    refine z_if_eq (pt := 24) (pc' := 23) dX12_broken_20 (by decide) rfl (fun hc => ?_) (fun hc => ?_)
    · have h := h.1 hc
      refine z_aload_n (pc' := 25) dX12_broken_24 rfl rfl ?_
      refine z_iload_n (pc' := 26) dX12_broken_25 rfl rfl ?_
      obtain ⟨S5, hG⟩ : ∃ z, z = zup S2 416 44 x1 := ⟨_, rfl⟩
      have h := h _ hG
      refine r_putI (kf := 44) (pc' := 29) hK dX12_broken_26 kX12_91 rfl (by decide) (by decide) rfl rfl (zok_int _) ?_
      refine r_st hG ?_
      refine z_aload_n (pc' := 30) dX12_broken_29 rfl rfl ?_
      refine z_iload_n (pc' := 31) dX12_broken_30 rfl rfl ?_
      obtain ⟨S6, hG⟩ : ∃ z, z = zup S5 416 45 x2 := ⟨_, rfl⟩
      have h := h _ hG
      refine r_putI (kf := 45) (pc' := 34) hK dX12_broken_31 kX12_409 rfl (by decide) (by decide) rfl rfl (zok_int _) ?_
      refine r_st hG ?_
      exact z_vret dX12_broken_34 rfl ⟨_, _, rfl, rfl, h⟩
    · have h := h.2 hc
      exact z_vret dX12_broken_23 rfl ⟨_, _, rfl, rfl, h⟩
  · have h := h.2 hc
    refine z_iconst (x := 1) (pc' := 12) dX12_broken_11 (by decide) rfl ?_
    refine z_goto (pc' := 16) dX12_broken_12 (by decide) ?_
    refine z_iconst (x := 1) (pc' := 17) dX12_broken_16 (by decide) rfl ?_
    refine r_callI (Y := mX12_throwsIf) (n := 2) (as := [.int 1, .int 1]) (st := []) (pc' := 20) h hK dX12_broken_17 kX12_321 vX12_throwsIf rfl rfl rfl (Nat.le_of_ble_eq_true rfl) (fun y9 S7 k8 h => ?_)
    refine z_if_eq (pt := 24) (pc' := 23) dX12_broken_20 (by decide) rfl (fun hc => ?_) (fun hc => ?_)
    · have h := h.1 hc
      refine z_aload_n (pc' := 25) dX12_broken_24 rfl rfl ?_
      refine z_iload_n (pc' := 26) dX12_broken_25 rfl rfl ?_
      obtain ⟨S10, hG⟩ : ∃ z, z = zup S7 416 44 x1 := ⟨_, rfl⟩
      have h := h _ hG
      refine r_putI (kf := 44) (pc' := 29) hK dX12_broken_26 kX12_91 rfl (by decide) (by decide) rfl rfl (zok_int _) ?_
      refine r_st hG ?_
      refine z_aload_n (pc' := 30) dX12_broken_29 rfl rfl ?_
      refine z_iload_n (pc' := 31) dX12_broken_30 rfl rfl ?_
      obtain ⟨S11, hG⟩ : ∃ z, z = zup S10 416 45 x2 := ⟨_, rfl⟩
      have h := h _ hG
      refine r_putI (kf := 45) (pc' := 34) hK dX12_broken_31 kX12_409 rfl (by decide) (by decide) rfl rfl (zok_int _) ?_
      refine r_st hG ?_
      exact z_vret dX12_broken_34 rfl ⟨_, _, rfl, rfl, h⟩
    · have h := h.2 hc
      exact z_vret dX12_broken_23 rfl ⟨_, _, rfl, rfl, h⟩
def rwp_X12_canPrint_0 (E : ZE) (l : Launch) (d b : Nat) (A G : ZG) (Q : Option Value → ZS9 → Prop) (k : Nat)  (S : ZS9) : Prop :=
  (((S 416 43) ≤ 0 →
    Q (some (.int 0)) S) ∧
  (¬ ((S 416 43) ≤ 0) →
    scI E l mX12_in d [.int (S 416 1), .int (S 416 44), .int (S 416 45)] (fun y1 =>
    ((¬ y1 = 0 →
      Q (some (.int 0)) S) ∧
    (¬ (¬ y1 = 0) →
      ((150 ≤ (S 416 71) →
        Q (some (.int 0)) S) ∧
      (¬ (150 ≤ (S 416 71)) →
        Q (some (.int 1)) S)))))))
theorem rwpt_X12_canPrint_0 {E : ZE} {l : Launch} {d b : Nat} {A G : ZG} {Q : Option Value → ZS9 → Prop} {k : Nat}  {S : ZS9} (hK : RK G) (h : rwp_X12_canPrint_0 E l d b A G Q k  S) : zW E l mX12_canPrint d b A (rQ G Q) k 0 [some (.ref (zp 416 0))] [] (zput G S) := by
  unfold rwp_X12_canPrint_0 at h
  refine z_aload_n (pc' := 1) dX12_canPrint_0 rfl rfl ?_
  refine r_getI (kf := 43) (pc' := 4) hK dX12_canPrint_1 kX12_406 rfl (by decide) (by decide) rfl ?_
  refine z_if_le (pt := 39) (pc' := 7) dX12_canPrint_4 (by decide) rfl (fun hc => ?_) (fun hc => ?_)
  · have h := h.1 hc
    refine z_iconst (x := 0) (pc' := 40) dX12_canPrint_39 (by decide) rfl ?_
    exact z_zret (ty := .boolean) dX12_canPrint_40 rfl (by decide) ⟨_, _, rfl, rfl, h⟩
  · have h := h.2 hc
    refine z_aload_n (pc' := 8) dX12_canPrint_7 rfl rfl ?_
    refine r_getI (kf := 1) (pc' := 11) hK dX12_canPrint_8 kX12_314 rfl (by decide) (by decide) rfl ?_
    refine z_aload_n (pc' := 12) dX12_canPrint_11 rfl rfl ?_
    refine r_getI (kf := 44) (pc' := 15) hK dX12_canPrint_12 kX12_91 rfl (by decide) (by decide) rfl ?_
    refine z_aload_n (pc' := 16) dX12_canPrint_15 rfl rfl ?_
    refine r_getI (kf := 45) (pc' := 19) hK dX12_canPrint_16 kX12_409 rfl (by decide) (by decide) rfl ?_
    refine r_callSI (Y := mX12_in) (n := 3) (as := [.int (S 416 1), .int (S 416 44), .int (S 416 45)]) (st := []) (pc' := 22) h dX12_canPrint_19 kX12_317 sX12_in rfl rfl (Nat.le_of_ble_eq_true rfl) (fun y1 h => ?_)
    refine z_if_ne (pt := 39) (pc' := 25) dX12_canPrint_22 (by decide) rfl (fun hc => ?_) (fun hc => ?_)
    · have h := h.1 hc
      refine z_iconst (x := 0) (pc' := 40) dX12_canPrint_39 (by decide) rfl ?_
      exact z_zret (ty := .boolean) dX12_canPrint_40 rfl (by decide) ⟨_, _, rfl, rfl, h⟩
    · have h := h.2 hc
      refine z_aload_n (pc' := 26) dX12_canPrint_25 rfl rfl ?_
      refine r_getI (kf := 71) (pc' := 29) hK dX12_canPrint_26 kX12_415 rfl (by decide) (by decide) rfl ?_
      refine z_sipush (x := 150) (pc' := 32) dX12_canPrint_29 (by decide) rfl ?_
      refine z_icmp_ge (pt := 39) (pc' := 35) dX12_canPrint_32 (by decide) rfl (fun hc => ?_) (fun hc => ?_)
      · have h := h.1 hc
        refine z_iconst (x := 0) (pc' := 40) dX12_canPrint_39 (by decide) rfl ?_
        exact z_zret (ty := .boolean) dX12_canPrint_40 rfl (by decide) ⟨_, _, rfl, rfl, h⟩
      · have h := h.2 hc
        refine z_iconst (x := 1) (pc' := 36) dX12_canPrint_35 (by decide) rfl ?_
        refine z_goto (pc' := 40) dX12_canPrint_36 (by decide) ?_
        exact z_zret (ty := .boolean) dX12_canPrint_40 rfl (by decide) ⟨_, _, rfl, rfl, h⟩
def rwp_X12_checks_0 (E : ZE) (l : Launch) (d b : Nat) (A G : ZG) (Q : Option Value → ZS9 → Prop) (k : Nat) (x1 : Int32) (S : ZS9) : Prop :=
  vp_in x1 120 ∧
  zW E l mX12_checks d b A (rQ G Q) k 15 [some (.ref (zp 416 0)), some (.int x1), some (.int (S 1153 x1.toNatClampNeg)), some (.int 0), some (.int 0), some (.int 0)] [] (zput G S)
theorem rwpt_X12_checks_0 {E : ZE} {l : Launch} {d b : Nat} {A G : ZG} {Q : Option Value → ZS9 → Prop} {k : Nat} {x1 : Int32} {S : ZS9} (hK : RK G) (h : rwp_X12_checks_0 E l d b A G Q k x1 S) : zW E l mX12_checks d b A (rQ G Q) k 0 [some (.ref (zp 416 0)), some (.int x1), none, none, none, none] [] (zput G S) := by
  unfold rwp_X12_checks_0 at h
  refine z_aload_n (pc' := 1) dX12_checks_0 rfl rfl ?_
  refine r_getA (kf := 53) (pc' := 4) hK rt_53 dX12_checks_1 kX12_112 rfl (by decide) (by decide) rfl ?_
  refine z_iload_n (pc' := 5) dX12_checks_4 rfl rfl ?_
  obtain ⟨h1, h⟩ := h
  refine r_iald (pc' := 6) hK rt_53 rfl dX12_checks_5 rfl h1 ?_
  refine z_istore_n (pc' := 7) dX12_checks_6 (by decide) rfl ?_
  refine z_iconst (x := 0) (pc' := 8) dX12_checks_7 (by decide) rfl ?_
  refine z_istore_n (pc' := 9) dX12_checks_8 (by decide) rfl ?_
  refine z_iconst (x := 0) (pc' := 10) dX12_checks_9 (by decide) rfl ?_
  refine z_istore (pc' := 12) dX12_checks_10 (by decide) rfl ?_
  refine z_iconst (x := 0) (pc' := 13) dX12_checks_12 (by decide) rfl ?_
  refine z_istore (pc' := 15) dX12_checks_13 (by decide) rfl ?_
  exact z_dr (ls' := [some (.ref (zp 416 0)), some (.int x1), some (.int (S 1153 x1.toNatClampNeg)), some (.int 0), some (.int 0), some (.int 0)]) ⟨rfl, rfl, rfl, rfl, rfl, rfl, trivial⟩ h
def rwp_X12_checks_15 (E : ZE) (l : Launch) (d b : Nat) (A G : ZG) (Q : Option Value → ZS9 → Prop) (k : Nat) (x1 : Int32) (x2 : Int32) (x3 : Int32) (x4 : Int32) (x5 : Int32) (S : ZS9) : Prop :=
  (((S 416 34) ≤ x5 →
    ((x3 = 0 →
      ((x4 = 0 →
        vp_in x1 120 ∧
        ((¬ (S 2163 x1.toNatClampNeg) = 0 →
          rcV E l mX12_sets d [.int x1, .int 0, .int 4] S k (fun S1 k2 =>
          Q none S1)) ∧
        (¬ (¬ (S 2163 x1.toNatClampNeg) = 0) →
          vp_in x1 120 ∧
          (((S 1162 x1.toNatClampNeg) ≤ (S 416 39) →
            rcV E l mX12_sets d [.int x1, .int 0, .int 5] S k (fun S3 k4 =>
            Q none S3)) ∧
          (¬ ((S 1162 x1.toNatClampNeg) ≤ (S 416 39)) →
            rcV E l mX12_sets d [.int x1, .int 0, .int 4] S k (fun S5 k6 =>
            Q none S5)))))) ∧
      (¬ (x4 = 0) →
        rcV E l mX12_sets d [.int x1, .int 0, .int 3] S k (fun S7 k8 =>
        Q none S7)))) ∧
    (¬ (x3 = 0) →
      rcV E l mX12_sets d [.int x1, .int 0, .int 9] S k (fun S9 k10 =>
      Q none S9)))) ∧
  (¬ ((S 416 34) ≤ x5) →
    ((x5 = x2 →
      zW E l mX12_checks d b A (rQ G Q) k 15 [some (.ref (zp 416 0)), some (.int x1), some (.int x2), some (.int x3), some (.int x4), some (.int (x5 + 1))] [] (zput G S)) ∧
    (¬ (x5 = x2) →
      rcI E l mX12_farOf d [.int x2, .int x5] S k (fun y13 S11 k12 =>
      ((y13 ≤ (S11 416 38) →
        ((¬ x3 = 0 →
          zW E l mX12_checks d b A (rQ G Q) k12 72 [some (.ref (zp 416 0)), some (.int x1), some (.int x2), none, some (.int x4), some (.int x5)] [.int 1] (zput G S11)) ∧
        (¬ (¬ x3 = 0) →
          vp_in ((80 * x2) + x5) 6400 ∧
          ((¬ (S11 1135 ((80 * x2) + x5).toNatClampNeg) = 2 →
            zW E l mX12_checks d b A (rQ G Q) k12 72 [some (.ref (zp 416 0)), some (.int x1), some (.int x2), none, some (.int x4), some (.int x5)] [.int 0] (zput G S11)) ∧
          (¬ (¬ (S11 1135 ((80 * x2) + x5).toNatClampNeg) = 2) →
            zW E l mX12_checks d b A (rQ G Q) k12 72 [some (.ref (zp 416 0)), some (.int x1), some (.int x2), none, some (.int x4), some (.int x5)] [.int 1] (zput G S11)))))) ∧
      (¬ (y13 ≤ (S11 416 38)) →
        zW E l mX12_checks d b A (rQ G Q) k12 15 [some (.ref (zp 416 0)), some (.int x1), some (.int x2), some (.int x3), some (.int x4), some (.int (x5 + 1))] [] (zput G S11))))))))
theorem rwpt_X12_checks_15 {E : ZE} {l : Launch} {d b : Nat} {A G : ZG} {Q : Option Value → ZS9 → Prop} {k : Nat} {x1 : Int32} {x2 : Int32} {x3 : Int32} {x4 : Int32} {x5 : Int32} {S : ZS9} (hK : RK G) (h : rwp_X12_checks_15 E l d b A G Q k x1 x2 x3 x4 x5 S) : zW E l mX12_checks d b A (rQ G Q) k 15 [some (.ref (zp 416 0)), some (.int x1), some (.int x2), some (.int x3), some (.int x4), some (.int x5)] [] (zput G S) := by
  unfold rwp_X12_checks_15 at h
  refine z_iload (pc' := 17) dX12_checks_15 rfl rfl ?_
  refine z_aload_n (pc' := 18) dX12_checks_17 rfl rfl ?_
  refine r_getI (kf := 34) (pc' := 21) hK dX12_checks_18 kX12_372 rfl (by decide) (by decide) rfl ?_
  refine z_icmp_ge (pt := 106) (pc' := 24) dX12_checks_21 (by decide) rfl (fun hc => ?_) (fun hc => ?_)
  · have h := h.1 hc
    refine z_aload_n (pc' := 107) dX12_checks_106 rfl rfl ?_
    refine z_iload_n (pc' := 108) dX12_checks_107 rfl rfl ?_
    refine z_iconst (x := 0) (pc' := 109) dX12_checks_108 (by decide) rfl ?_
    refine z_iload_n (pc' := 110) dX12_checks_109 rfl rfl ?_
    refine z_if_eq (pt := 118) (pc' := 113) dX12_checks_110 (by decide) rfl (fun hc => ?_) (fun hc => ?_)
    · have h := h.1 hc
      refine z_iload (pc' := 120) dX12_checks_118 rfl rfl ?_
      refine z_if_eq (pt := 127) (pc' := 123) dX12_checks_120 (by decide) rfl (fun hc => ?_) (fun hc => ?_)
      · have h := h.1 hc
        refine z_aload_n (pc' := 128) dX12_checks_127 rfl rfl ?_
        refine r_getA (kf := 63) (pc' := 131) hK rt_63 dX12_checks_128 kX12_142 rfl (by decide) (by decide) rfl ?_
        refine z_iload_n (pc' := 132) dX12_checks_131 rfl rfl ?_
        obtain ⟨h1, h⟩ := h
        refine r_zald (pc' := 133) hK rt_63 rfl dX12_checks_132 rfl h1 ?_
        refine z_if_ne (pt := 149) (pc' := 136) dX12_checks_133 (by decide) rfl (fun hc => ?_) (fun hc => ?_)
        · have h := h.1 hc
          refine z_iconst (x := 4) (pc' := 150) dX12_checks_149 (by decide) rfl ?_
          refine z_goto (pc' := 154) dX12_checks_150 (by decide) ?_
          refine r_callV (Y := mX12_sets) (n := 3) (as := [.int x1, .int 0, .int 4]) (st := []) (pc' := 157) h hK dX12_checks_154 kX12_425 vX12_sets rfl rfl rfl (Nat.le_of_ble_eq_true rfl) (fun S1 k2 h => ?_)
          exact z_vret dX12_checks_157 rfl ⟨_, _, rfl, rfl, h⟩
        · have h := h.2 hc
          refine z_aload_n (pc' := 137) dX12_checks_136 rfl rfl ?_
          refine r_getA (kf := 62) (pc' := 140) hK rt_62 dX12_checks_137 kX12_139 rfl (by decide) (by decide) rfl ?_
          refine z_iload_n (pc' := 141) dX12_checks_140 rfl rfl ?_
          obtain ⟨h1, h⟩ := h
          refine r_iald (pc' := 142) hK rt_62 rfl dX12_checks_141 rfl h1 ?_
          refine z_aload_n (pc' := 143) dX12_checks_142 rfl rfl ?_
          refine r_getI (kf := 39) (pc' := 146) hK dX12_checks_143 kX12_82 rfl (by decide) (by decide) rfl ?_
          refine z_icmp_le (pt := 153) (pc' := 149) dX12_checks_146 (by decide) rfl (fun hc => ?_) (fun hc => ?_)
          · have h := h.1 hc
            refine z_iconst (x := 5) (pc' := 154) dX12_checks_153 (by decide) rfl ?_
            refine r_callV (Y := mX12_sets) (n := 3) (as := [.int x1, .int 0, .int 5]) (st := []) (pc' := 157) h hK dX12_checks_154 kX12_425 vX12_sets rfl rfl rfl (Nat.le_of_ble_eq_true rfl) (fun S3 k4 h => ?_)
            exact z_vret dX12_checks_157 rfl ⟨_, _, rfl, rfl, h⟩
          · have h := h.2 hc
            refine z_iconst (x := 4) (pc' := 150) dX12_checks_149 (by decide) rfl ?_
            refine z_goto (pc' := 154) dX12_checks_150 (by decide) ?_
            refine r_callV (Y := mX12_sets) (n := 3) (as := [.int x1, .int 0, .int 4]) (st := []) (pc' := 157) h hK dX12_checks_154 kX12_425 vX12_sets rfl rfl rfl (Nat.le_of_ble_eq_true rfl) (fun S5 k6 h => ?_)
            exact z_vret dX12_checks_157 rfl ⟨_, _, rfl, rfl, h⟩
      · have h := h.2 hc
        refine z_iconst (x := 3) (pc' := 124) dX12_checks_123 (by decide) rfl ?_
        refine z_goto (pc' := 154) dX12_checks_124 (by decide) ?_
        refine r_callV (Y := mX12_sets) (n := 3) (as := [.int x1, .int 0, .int 3]) (st := []) (pc' := 157) h hK dX12_checks_154 kX12_425 vX12_sets rfl rfl rfl (Nat.le_of_ble_eq_true rfl) (fun S7 k8 h => ?_)
        exact z_vret dX12_checks_157 rfl ⟨_, _, rfl, rfl, h⟩
    · have h := h.2 hc
      refine z_bipush (x := 9) (pc' := 115) dX12_checks_113 (by decide) rfl ?_
      refine z_goto (pc' := 154) dX12_checks_115 (by decide) ?_
      refine r_callV (Y := mX12_sets) (n := 3) (as := [.int x1, .int 0, .int 9]) (st := []) (pc' := 157) h hK dX12_checks_154 kX12_425 vX12_sets rfl rfl rfl (Nat.le_of_ble_eq_true rfl) (fun S9 k10 h => ?_)
      exact z_vret dX12_checks_157 rfl ⟨_, _, rfl, rfl, h⟩
  · have h := h.2 hc
    refine z_iload (pc' := 26) dX12_checks_24 rfl rfl ?_
    refine z_iload_n (pc' := 27) dX12_checks_26 rfl rfl ?_
    refine z_icmp_eq (pt := 100) (pc' := 30) dX12_checks_27 (by decide) rfl (fun hc => ?_) (fun hc => ?_)
    · have h := h.1 hc
      refine z_iinc (y := x5 + 1) (pc' := 103) dX12_checks_100 rfl (zinc_1 _) (by decide) rfl ?_
      refine z_goto (pc' := 15) dX12_checks_103 (by decide) ?_
      exact z_dr (ls' := [some (.ref (zp 416 0)), some (.int x1), some (.int x2), some (.int x3), some (.int x4), some (.int (x5 + 1))]) ⟨rfl, rfl, rfl, rfl, rfl, rfl, trivial⟩ h
    · have h := h.2 hc
      refine z_aload_n (pc' := 31) dX12_checks_30 rfl rfl ?_
      refine z_iload_n (pc' := 32) dX12_checks_31 rfl rfl ?_
      refine z_iload (pc' := 34) dX12_checks_32 rfl rfl ?_
      refine r_callI (Y := mX12_farOf) (n := 2) (as := [.int x2, .int x5]) (st := []) (pc' := 37) h hK dX12_checks_34 kX12_391 vX12_farOf rfl rfl rfl (Nat.le_of_ble_eq_true rfl) (fun y13 S11 k12 h => ?_)
      refine z_aload_n (pc' := 38) dX12_checks_37 rfl rfl ?_
      refine r_getI (kf := 38) (pc' := 41) hK dX12_checks_38 kX12_79 rfl (by decide) (by decide) rfl ?_
      refine z_icmp_le (pt := 47) (pc' := 44) dX12_checks_41 (by decide) rfl (fun hc => ?_) (fun hc => ?_)
      · have h := h.1 hc
        refine z_iload_n (pc' := 48) dX12_checks_47 rfl rfl ?_
        refine z_if_ne (pt := 67) (pc' := 51) dX12_checks_48 (by decide) rfl (fun hc => ?_) (fun hc => ?_)
        · have h := h.1 hc
          refine z_iconst (x := 1) (pc' := 68) dX12_checks_67 (by decide) rfl ?_
          refine z_goto (pc' := 72) dX12_checks_68 (by decide) ?_
          exact z_dr (ls' := [some (.ref (zp 416 0)), some (.int x1), some (.int x2), none, some (.int x4), some (.int x5)]) ⟨rfl, rfl, rfl, rfl, rfl, trivial⟩ h
        · have h := h.2 hc
          refine z_aload_n (pc' := 52) dX12_checks_51 rfl rfl ?_
          refine r_getA (kf := 35) (pc' := 55) hK rt_35 dX12_checks_52 kX12_70 rfl (by decide) (by decide) rfl ?_
          refine z_bipush (x := 80) (pc' := 57) dX12_checks_55 (by decide) rfl ?_
          refine z_iload_n (pc' := 58) dX12_checks_57 rfl rfl ?_
          refine z_imul (pc' := 59) dX12_checks_58 rfl rfl ?_
          refine z_iload (pc' := 61) dX12_checks_59 rfl rfl ?_
          refine z_iadd (pc' := 62) dX12_checks_61 rfl rfl ?_
          obtain ⟨h1, h⟩ := h
          refine r_iald (pc' := 63) hK rt_35 rfl dX12_checks_62 rfl h1 ?_
          refine z_iconst (x := 2) (pc' := 64) dX12_checks_63 (by decide) rfl ?_
          refine z_icmp_ne (pt := 71) (pc' := 67) dX12_checks_64 (by decide) rfl (fun hc => ?_) (fun hc => ?_)
          · have h := h.1 hc
            refine z_iconst (x := 0) (pc' := 72) dX12_checks_71 (by decide) rfl ?_
            exact z_dr (ls' := [some (.ref (zp 416 0)), some (.int x1), some (.int x2), none, some (.int x4), some (.int x5)]) ⟨rfl, rfl, rfl, rfl, rfl, trivial⟩ h
          · have h := h.2 hc
            refine z_iconst (x := 1) (pc' := 68) dX12_checks_67 (by decide) rfl ?_
            refine z_goto (pc' := 72) dX12_checks_68 (by decide) ?_
            exact z_dr (ls' := [some (.ref (zp 416 0)), some (.int x1), some (.int x2), none, some (.int x4), some (.int x5)]) ⟨rfl, rfl, rfl, rfl, rfl, trivial⟩ h
      · have h := h.2 hc
        refine z_goto (pc' := 100) dX12_checks_44 (by decide) ?_
        refine z_iinc (y := x5 + 1) (pc' := 103) dX12_checks_100 rfl (zinc_1 _) (by decide) rfl ?_
        refine z_goto (pc' := 15) dX12_checks_103 (by decide) ?_
        exact z_dr (ls' := [some (.ref (zp 416 0)), some (.int x1), some (.int x2), some (.int x3), some (.int x4), some (.int (x5 + 1))]) ⟨rfl, rfl, rfl, rfl, rfl, rfl, trivial⟩ h
def rwp_X12_checks_72 (E : ZE) (l : Launch) (d b : Nat) (A G : ZG) (Q : Option Value → ZS9 → Prop) (k : Nat) (x1 : Int32) (x2 : Int32) (x4 : Int32) (x5 : Int32) (s0 : Int32) (S : ZS9) : Prop :=
  ((¬ x4 = 0 →
    zW E l mX12_checks d b A (rQ G Q) k 15 [some (.ref (zp 416 0)), some (.int x1), some (.int x2), some (.int s0), some (.int 1), some (.int (x5 + 1))] [] (zput G S)) ∧
  (¬ (¬ x4 = 0) →
    vp_in ((80 * x2) + x5) 6400 ∧
    ((¬ (S 1135 ((80 * x2) + x5).toNatClampNeg) = 0 →
      zW E l mX12_checks d b A (rQ G Q) k 15 [some (.ref (zp 416 0)), some (.int x1), some (.int x2), some (.int s0), some (.int 0), some (.int (x5 + 1))] [] (zput G S)) ∧
    (¬ (¬ (S 1135 ((80 * x2) + x5).toNatClampNeg) = 0) →
      zW E l mX12_checks d b A (rQ G Q) k 15 [some (.ref (zp 416 0)), some (.int x1), some (.int x2), some (.int s0), some (.int 1), some (.int (x5 + 1))] [] (zput G S)))))
theorem rwpt_X12_checks_72 {E : ZE} {l : Launch} {d b : Nat} {A G : ZG} {Q : Option Value → ZS9 → Prop} {k : Nat} {x1 : Int32} {x2 : Int32} {x4 : Int32} {x5 : Int32} {s0 : Int32} {S : ZS9} (hK : RK G) (h : rwp_X12_checks_72 E l d b A G Q k x1 x2 x4 x5 s0 S) : zW E l mX12_checks d b A (rQ G Q) k 72 [some (.ref (zp 416 0)), some (.int x1), some (.int x2), none, some (.int x4), some (.int x5)] [.int s0] (zput G S) := by
  unfold rwp_X12_checks_72 at h
  refine z_istore_n (pc' := 73) dX12_checks_72 (by decide) rfl ?_
  refine z_iload (pc' := 75) dX12_checks_73 rfl rfl ?_
  refine z_if_ne (pt := 93) (pc' := 78) dX12_checks_75 (by decide) rfl (fun hc => ?_) (fun hc => ?_)
  · have h := h.1 hc
    refine z_iconst (x := 1) (pc' := 94) dX12_checks_93 (by decide) rfl ?_
    refine z_goto (pc' := 98) dX12_checks_94 (by decide) ?_
    refine z_istore (pc' := 100) dX12_checks_98 (by decide) rfl ?_
    refine z_iinc (y := x5 + 1) (pc' := 103) dX12_checks_100 rfl (zinc_1 _) (by decide) rfl ?_
    refine z_goto (pc' := 15) dX12_checks_103 (by decide) ?_
    exact z_dr (ls' := [some (.ref (zp 416 0)), some (.int x1), some (.int x2), some (.int s0), some (.int 1), some (.int (x5 + 1))]) ⟨rfl, rfl, rfl, rfl, rfl, rfl, trivial⟩ h
  · have h := h.2 hc
    refine z_aload_n (pc' := 79) dX12_checks_78 rfl rfl ?_
    refine r_getA (kf := 35) (pc' := 82) hK rt_35 dX12_checks_79 kX12_70 rfl (by decide) (by decide) rfl ?_
    refine z_bipush (x := 80) (pc' := 84) dX12_checks_82 (by decide) rfl ?_
    refine z_iload_n (pc' := 85) dX12_checks_84 rfl rfl ?_
    refine z_imul (pc' := 86) dX12_checks_85 rfl rfl ?_
    refine z_iload (pc' := 88) dX12_checks_86 rfl rfl ?_
    refine z_iadd (pc' := 89) dX12_checks_88 rfl rfl ?_
    obtain ⟨h1, h⟩ := h
    refine r_iald (pc' := 90) hK rt_35 rfl dX12_checks_89 rfl h1 ?_
    refine z_if_ne (pt := 97) (pc' := 93) dX12_checks_90 (by decide) rfl (fun hc => ?_) (fun hc => ?_)
    · have h := h.1 hc
      refine z_iconst (x := 0) (pc' := 98) dX12_checks_97 (by decide) rfl ?_
      refine z_istore (pc' := 100) dX12_checks_98 (by decide) rfl ?_
      refine z_iinc (y := x5 + 1) (pc' := 103) dX12_checks_100 rfl (zinc_1 _) (by decide) rfl ?_
      refine z_goto (pc' := 15) dX12_checks_103 (by decide) ?_
      exact z_dr (ls' := [some (.ref (zp 416 0)), some (.int x1), some (.int x2), some (.int s0), some (.int 0), some (.int (x5 + 1))]) ⟨rfl, rfl, rfl, rfl, rfl, rfl, trivial⟩ h
    · have h := h.2 hc
      refine z_iconst (x := 1) (pc' := 94) dX12_checks_93 (by decide) rfl ?_
      refine z_goto (pc' := 98) dX12_checks_94 (by decide) ?_
      refine z_istore (pc' := 100) dX12_checks_98 (by decide) rfl ?_
      refine z_iinc (y := x5 + 1) (pc' := 103) dX12_checks_100 rfl (zinc_1 _) (by decide) rfl ?_
      refine z_goto (pc' := 15) dX12_checks_103 (by decide) ?_
      exact z_dr (ls' := [some (.ref (zp 416 0)), some (.int x1), some (.int x2), some (.int s0), some (.int 1), some (.int (x5 + 1))]) ⟨rfl, rfl, rfl, rfl, rfl, rfl, trivial⟩ h
def rwp_X12_count_0 (E : ZE) (l : Launch) (d b : Nat) (A G : ZG) (Q : Option Value → ZS9 → Prop) (k : Nat) (x1 : Int32) (S : ZS9) : Prop :=
  ∀ S1, S1 = zup S 416 0 0 →
  ((x1 = 0 →
    Q (some (.int (S1 416 1))) S1) ∧
  ((x1 = 1 →
    Q (some (.int (S1 416 34))) S1) ∧
  ((x1 = 2 →
    Q (some (.int (S1 416 19))) S1) ∧
  ((x1 = 3 →
    Q (some (.int (S1 416 66))) S1) ∧
  ((x1 = 4 →
    rcI E l mX12_inState d [.int 0, .int 5] S1 k (fun y4 S2 k3 =>
    Q (some (.int y4)) S2)) ∧
  ((x1 = 5 →
    rcI E l mX12_inState d [.int 7, .int 7] S1 k (fun y7 S5 k6 =>
    Q (some (.int y7)) S5)) ∧
  ((x1 = 6 →
    rcI E l mX12_inState d [.int 3, .int 3] S1 k (fun y10 S8 k9 =>
    Q (some (.int y10)) S8)) ∧
  ((x1 = 7 →
    Q (some (.int (S1 416 71))) S1) ∧
  ((x1 = 8 →
    Q (some (.int (S1 416 43))) S1) ∧
  ((x1 = 9 →
    Q (some (.int (S1 416 72))) S1) ∧
  ((x1 = 10 →
    Q (some (.int (S1 416 73))) S1) ∧
  ((x1 = 11 →
    Q (some (.int (S1 416 74))) S1) ∧
  ((x1 = 12 →
    Q (some (.int (S1 416 75))) S1) ∧
  ((x1 = 13 →
    Q (some (.int (S1 416 52))) S1) ∧
  ((x1 = 14 →
    Q (some (.int (S1 416 76))) S1) ∧
  ((x1 = 15 →
    rcI E l mX12_lawOf d [.int (S1 416 1)] S1 k (fun y13 S11 k12 =>
    ((0 ≤ y13 →
      rcI E l mX12_lawOf d [.int (S11 416 1)] S11 k12 (fun y16 S14 k15 =>
      vp_in y16 13 ∧
      Q (some (.int (S14 1111 y16.toNatClampNeg))) S14)) ∧
    (¬ (0 ≤ y13) →
      Q (some (.int 0)) S11)))) ∧
  ((x1 = 16 →
    rcI E l mX12_inState d [.int 9, .int 9] S1 k (fun y19 S17 k18 =>
    Q (some (.int y19)) S17)) ∧
  ((x1 = 17 →
    rcI E l mX12_inState d [.int 8, .int 8] S1 k (fun y22 S20 k21 =>
    Q (some (.int y22)) S20)) ∧
  (¬ x1 = 0 → ¬ x1 = 1 → ¬ x1 = 2 → ¬ x1 = 3 → ¬ x1 = 4 → ¬ x1 = 5 → ¬ x1 = 6 → ¬ x1 = 7 → ¬ x1 = 8 → ¬ x1 = 9 → ¬ x1 = 10 → ¬ x1 = 11 → ¬ x1 = 12 → ¬ x1 = 13 → ¬ x1 = 14 → ¬ x1 = 15 → ¬ x1 = 16 → ¬ x1 = 17 →
    Q (some (.int (-1))) S1)))))))))))))))))))
theorem rwpt_X12_count_0 {E : ZE} {l : Launch} {d b : Nat} {A G : ZG} {Q : Option Value → ZS9 → Prop} {k : Nat} {x1 : Int32} {S : ZS9} (hK : RK G) (h : rwp_X12_count_0 E l d b A G Q k x1 S) : zW E l mX12_count d b A (rQ G Q) k 0 [some (.ref (zp 416 0)), some (.int x1)] [] (zput G S) := by
  unfold rwp_X12_count_0 at h
  refine z_aload_n (pc' := 1) dX12_count_0 rfl rfl ?_
  refine z_iconst (x := 0) (pc' := 2) dX12_count_1 (by decide) rfl ?_
  obtain ⟨S1, hG⟩ : ∃ z, z = zup S 416 0 0 := ⟨_, rfl⟩
  have h := h _ hG
  refine r_putI (kf := 0) (pc' := 5) hK dX12_count_2 kX12_178 rfl (by decide) (by decide) rfl rfl (zok_int _) ?_
  refine r_st hG ?_
  refine z_iload_n (pc' := 6) dX12_count_5 rfl rfl ?_
  by_cases hc0 : x1 = 0
  · have h := h.1 hc0
    refine z_tableIn (off := 86) (pt := 92) dX12_count_6 (by rw [hc0]; decide) (by rw [hc0]; decide) (by rw [hc0]; decide) (by decide) ?_
    refine z_aload_n (pc' := 93) dX12_count_92 rfl rfl ?_
    refine r_getI (kf := 1) (pc' := 96) hK dX12_count_93 kX12_314 rfl (by decide) (by decide) rfl ?_
    exact z_iret dX12_count_96 rfl ⟨_, _, rfl, rfl, h⟩
  have h := h.2
  by_cases hc1 : x1 = 1
  · have h := h.1 hc1
    refine z_tableIn (off := 91) (pt := 97) dX12_count_6 (by rw [hc1]; decide) (by rw [hc1]; decide) (by rw [hc1]; decide) (by decide) ?_
    refine z_aload_n (pc' := 98) dX12_count_97 rfl rfl ?_
    refine r_getI (kf := 34) (pc' := 101) hK dX12_count_98 kX12_372 rfl (by decide) (by decide) rfl ?_
    exact z_iret dX12_count_101 rfl ⟨_, _, rfl, rfl, h⟩
  have h := h.2
  by_cases hc2 : x1 = 2
  · have h := h.1 hc2
    refine z_tableIn (off := 96) (pt := 102) dX12_count_6 (by rw [hc2]; decide) (by rw [hc2]; decide) (by rw [hc2]; decide) (by decide) ?_
    refine z_aload_n (pc' := 103) dX12_count_102 rfl rfl ?_
    refine r_getI (kf := 19) (pc' := 106) hK dX12_count_103 kX12_328 rfl (by decide) (by decide) rfl ?_
    exact z_iret dX12_count_106 rfl ⟨_, _, rfl, rfl, h⟩
  have h := h.2
  by_cases hc3 : x1 = 3
  · have h := h.1 hc3
    refine z_tableIn (off := 101) (pt := 107) dX12_count_6 (by rw [hc3]; decide) (by rw [hc3]; decide) (by rw [hc3]; decide) (by decide) ?_
    refine z_aload_n (pc' := 108) dX12_count_107 rfl rfl ?_
    refine r_getI (kf := 66) (pc' := 111) hK dX12_count_108 kX12_412 rfl (by decide) (by decide) rfl ?_
    exact z_iret dX12_count_111 rfl ⟨_, _, rfl, rfl, h⟩
  have h := h.2
  by_cases hc4 : x1 = 4
  · have h := h.1 hc4
    refine z_tableIn (off := 106) (pt := 112) dX12_count_6 (by rw [hc4]; decide) (by rw [hc4]; decide) (by rw [hc4]; decide) (by decide) ?_
    refine z_aload_n (pc' := 113) dX12_count_112 rfl rfl ?_
    refine z_iconst (x := 0) (pc' := 114) dX12_count_113 (by decide) rfl ?_
    refine z_iconst (x := 5) (pc' := 115) dX12_count_114 (by decide) rfl ?_
    refine r_callI (Y := mX12_inState) (n := 2) (as := [.int 0, .int 5]) (st := []) (pc' := 118) h hK dX12_count_115 kX12_493 vX12_inState rfl rfl rfl (Nat.le_of_ble_eq_true rfl) (fun y4 S2 k3 h => ?_)
    exact z_iret dX12_count_118 rfl ⟨_, _, rfl, rfl, h⟩
  have h := h.2
  by_cases hc5 : x1 = 5
  · have h := h.1 hc5
    refine z_tableIn (off := 113) (pt := 119) dX12_count_6 (by rw [hc5]; decide) (by rw [hc5]; decide) (by rw [hc5]; decide) (by decide) ?_
    refine z_aload_n (pc' := 120) dX12_count_119 rfl rfl ?_
    refine z_bipush (x := 7) (pc' := 122) dX12_count_120 (by decide) rfl ?_
    refine z_bipush (x := 7) (pc' := 124) dX12_count_122 (by decide) rfl ?_
    refine r_callI (Y := mX12_inState) (n := 2) (as := [.int 7, .int 7]) (st := []) (pc' := 127) h hK dX12_count_124 kX12_493 vX12_inState rfl rfl rfl (Nat.le_of_ble_eq_true rfl) (fun y7 S5 k6 h => ?_)
    exact z_iret dX12_count_127 rfl ⟨_, _, rfl, rfl, h⟩
  have h := h.2
  by_cases hc6 : x1 = 6
  · have h := h.1 hc6
    refine z_tableIn (off := 122) (pt := 128) dX12_count_6 (by rw [hc6]; decide) (by rw [hc6]; decide) (by rw [hc6]; decide) (by decide) ?_
    refine z_aload_n (pc' := 129) dX12_count_128 rfl rfl ?_
    refine z_iconst (x := 3) (pc' := 130) dX12_count_129 (by decide) rfl ?_
    refine z_iconst (x := 3) (pc' := 131) dX12_count_130 (by decide) rfl ?_
    refine r_callI (Y := mX12_inState) (n := 2) (as := [.int 3, .int 3]) (st := []) (pc' := 134) h hK dX12_count_131 kX12_493 vX12_inState rfl rfl rfl (Nat.le_of_ble_eq_true rfl) (fun y10 S8 k9 h => ?_)
    exact z_iret dX12_count_134 rfl ⟨_, _, rfl, rfl, h⟩
  have h := h.2
  by_cases hc7 : x1 = 7
  · have h := h.1 hc7
    refine z_tableIn (off := 129) (pt := 135) dX12_count_6 (by rw [hc7]; decide) (by rw [hc7]; decide) (by rw [hc7]; decide) (by decide) ?_
    refine z_aload_n (pc' := 136) dX12_count_135 rfl rfl ?_
    refine r_getI (kf := 71) (pc' := 139) hK dX12_count_136 kX12_415 rfl (by decide) (by decide) rfl ?_
    exact z_iret dX12_count_139 rfl ⟨_, _, rfl, rfl, h⟩
  have h := h.2
  by_cases hc8 : x1 = 8
  · have h := h.1 hc8
    refine z_tableIn (off := 134) (pt := 140) dX12_count_6 (by rw [hc8]; decide) (by rw [hc8]; decide) (by rw [hc8]; decide) (by decide) ?_
    refine z_aload_n (pc' := 141) dX12_count_140 rfl rfl ?_
    refine r_getI (kf := 43) (pc' := 144) hK dX12_count_141 kX12_406 rfl (by decide) (by decide) rfl ?_
    exact z_iret dX12_count_144 rfl ⟨_, _, rfl, rfl, h⟩
  have h := h.2
  by_cases hc9 : x1 = 9
  · have h := h.1 hc9
    refine z_tableIn (off := 139) (pt := 145) dX12_count_6 (by rw [hc9]; decide) (by rw [hc9]; decide) (by rw [hc9]; decide) (by decide) ?_
    refine z_aload_n (pc' := 146) dX12_count_145 rfl rfl ?_
    refine r_getI (kf := 72) (pc' := 149) hK dX12_count_146 kX12_428 rfl (by decide) (by decide) rfl ?_
    exact z_iret dX12_count_149 rfl ⟨_, _, rfl, rfl, h⟩
  have h := h.2
  by_cases hc10 : x1 = 10
  · have h := h.1 hc10
    refine z_tableIn (off := 144) (pt := 150) dX12_count_6 (by rw [hc10]; decide) (by rw [hc10]; decide) (by rw [hc10]; decide) (by decide) ?_
    refine z_aload_n (pc' := 151) dX12_count_150 rfl rfl ?_
    refine r_getI (kf := 73) (pc' := 154) hK dX12_count_151 kX12_456 rfl (by decide) (by decide) rfl ?_
    exact z_iret dX12_count_154 rfl ⟨_, _, rfl, rfl, h⟩
  have h := h.2
  by_cases hc11 : x1 = 11
  · have h := h.1 hc11
    refine z_tableIn (off := 149) (pt := 155) dX12_count_6 (by rw [hc11]; decide) (by rw [hc11]; decide) (by rw [hc11]; decide) (by decide) ?_
    refine z_aload_n (pc' := 156) dX12_count_155 rfl rfl ?_
    refine r_getI (kf := 74) (pc' := 159) hK dX12_count_156 kX12_465 rfl (by decide) (by decide) rfl ?_
    exact z_iret dX12_count_159 rfl ⟨_, _, rfl, rfl, h⟩
  have h := h.2
  by_cases hc12 : x1 = 12
  · have h := h.1 hc12
    refine z_tableIn (off := 154) (pt := 160) dX12_count_6 (by rw [hc12]; decide) (by rw [hc12]; decide) (by rw [hc12]; decide) (by decide) ?_
    refine z_aload_n (pc' := 161) dX12_count_160 rfl rfl ?_
    refine r_getI (kf := 75) (pc' := 164) hK dX12_count_161 kX12_484 rfl (by decide) (by decide) rfl ?_
    exact z_iret dX12_count_164 rfl ⟨_, _, rfl, rfl, h⟩
  have h := h.2
  by_cases hc13 : x1 = 13
  · have h := h.1 hc13
    refine z_tableIn (off := 159) (pt := 165) dX12_count_6 (by rw [hc13]; decide) (by rw [hc13]; decide) (by rw [hc13]; decide) (by decide) ?_
    refine z_aload_n (pc' := 166) dX12_count_165 rfl rfl ?_
    refine r_getI (kf := 52) (pc' := 169) hK dX12_count_166 kX12_397 rfl (by decide) (by decide) rfl ?_
    exact z_iret dX12_count_169 rfl ⟨_, _, rfl, rfl, h⟩
  have h := h.2
  by_cases hc14 : x1 = 14
  · have h := h.1 hc14
    refine z_tableIn (off := 164) (pt := 170) dX12_count_6 (by rw [hc14]; decide) (by rw [hc14]; decide) (by rw [hc14]; decide) (by decide) ?_
    refine z_aload_n (pc' := 171) dX12_count_170 rfl rfl ?_
    refine r_getI (kf := 76) (pc' := 174) hK dX12_count_171 kX12_481 rfl (by decide) (by decide) rfl ?_
    exact z_iret dX12_count_174 rfl ⟨_, _, rfl, rfl, h⟩
  have h := h.2
  by_cases hc15 : x1 = 15
  · have h := h.1 hc15
    refine z_tableIn (off := 169) (pt := 175) dX12_count_6 (by rw [hc15]; decide) (by rw [hc15]; decide) (by rw [hc15]; decide) (by decide) ?_
    refine z_aload_n (pc' := 176) dX12_count_175 rfl rfl ?_
    refine z_aload_n (pc' := 177) dX12_count_176 rfl rfl ?_
    refine r_getI (kf := 1) (pc' := 180) hK dX12_count_177 kX12_314 rfl (by decide) (by decide) rfl ?_
    refine r_callI (Y := mX12_lawOf) (n := 1) (as := [.int (S1 416 1)]) (st := []) (pc' := 183) h hK dX12_count_180 kX12_359 vX12_lawOf rfl rfl rfl (Nat.le_of_ble_eq_true rfl) (fun y13 S11 k12 h => ?_)
    refine z_if_ge (pt := 190) (pc' := 186) dX12_count_183 (by decide) rfl (fun hc => ?_) (fun hc => ?_)
    · have h := h.1 hc
      refine z_aload_n (pc' := 191) dX12_count_190 rfl rfl ?_
      refine r_getA (kf := 11) (pc' := 194) hK rt_11 dX12_count_191 kX12_24 rfl (by decide) (by decide) rfl ?_
      refine z_aload_n (pc' := 195) dX12_count_194 rfl rfl ?_
      refine z_aload_n (pc' := 196) dX12_count_195 rfl rfl ?_
      refine r_getI (kf := 1) (pc' := 199) hK dX12_count_196 kX12_314 rfl (by decide) (by decide) rfl ?_
      refine r_callI (Y := mX12_lawOf) (n := 1) (as := [.int (S11 416 1)]) (st := [.ref (zp 1111 0)]) (pc' := 202) h hK dX12_count_199 kX12_359 vX12_lawOf rfl rfl rfl (Nat.le_of_ble_eq_true rfl) (fun y16 S14 k15 h => ?_)
      obtain ⟨h1, h⟩ := h
      refine r_iald (pc' := 203) hK rt_11 rfl dX12_count_202 rfl h1 ?_
      exact z_iret dX12_count_203 rfl ⟨_, _, rfl, rfl, h⟩
    · have h := h.2 hc
      refine z_iconst (x := 0) (pc' := 187) dX12_count_186 (by decide) rfl ?_
      refine z_goto (pc' := 203) dX12_count_187 (by decide) ?_
      exact z_iret dX12_count_203 rfl ⟨_, _, rfl, rfl, h⟩
  have h := h.2
  by_cases hc16 : x1 = 16
  · have h := h.1 hc16
    refine z_tableIn (off := 198) (pt := 204) dX12_count_6 (by rw [hc16]; decide) (by rw [hc16]; decide) (by rw [hc16]; decide) (by decide) ?_
    refine z_aload_n (pc' := 205) dX12_count_204 rfl rfl ?_
    refine z_bipush (x := 9) (pc' := 207) dX12_count_205 (by decide) rfl ?_
    refine z_bipush (x := 9) (pc' := 209) dX12_count_207 (by decide) rfl ?_
    refine r_callI (Y := mX12_inState) (n := 2) (as := [.int 9, .int 9]) (st := []) (pc' := 212) h hK dX12_count_209 kX12_493 vX12_inState rfl rfl rfl (Nat.le_of_ble_eq_true rfl) (fun y19 S17 k18 h => ?_)
    exact z_iret dX12_count_212 rfl ⟨_, _, rfl, rfl, h⟩
  have h := h.2
  by_cases hc17 : x1 = 17
  · have h := h.1 hc17
    refine z_tableIn (off := 207) (pt := 213) dX12_count_6 (by rw [hc17]; decide) (by rw [hc17]; decide) (by rw [hc17]; decide) (by decide) ?_
    refine z_aload_n (pc' := 214) dX12_count_213 rfl rfl ?_
    refine z_bipush (x := 8) (pc' := 216) dX12_count_214 (by decide) rfl ?_
    refine z_bipush (x := 8) (pc' := 218) dX12_count_216 (by decide) rfl ?_
    refine r_callI (Y := mX12_inState) (n := 2) (as := [.int 8, .int 8]) (st := []) (pc' := 221) h hK dX12_count_218 kX12_493 vX12_inState rfl rfl rfl (Nat.le_of_ble_eq_true rfl) (fun y22 S20 k21 h => ?_)
    exact z_iret dX12_count_221 rfl ⟨_, _, rfl, rfl, h⟩
  have h := h.2
  have h := h hc0 hc1 hc2 hc3 hc4 hc5 hc6 hc7 hc8 hc9 hc10 hc11 hc12 hc13 hc14 hc15 hc16 hc17
  refine z_tableOut (pt := 222) dX12_count_6 (by have e0 := lv_neT (a := 0) hc0 (by decide); have e1 := lv_neT (a := 1) hc1 (by decide); have e2 := lv_neT (a := 2) hc2 (by decide); have e3 := lv_neT (a := 3) hc3 (by decide); have e4 := lv_neT (a := 4) hc4 (by decide); have e5 := lv_neT (a := 5) hc5 (by decide); have e6 := lv_neT (a := 6) hc6 (by decide); have e7 := lv_neT (a := 7) hc7 (by decide); have e8 := lv_neT (a := 8) hc8 (by decide); have e9 := lv_neT (a := 9) hc9 (by decide); have e10 := lv_neT (a := 10) hc10 (by decide); have e11 := lv_neT (a := 11) hc11 (by decide); have e12 := lv_neT (a := 12) hc12 (by decide); have e13 := lv_neT (a := 13) hc13 (by decide); have e14 := lv_neT (a := 14) hc14 (by decide); have e15 := lv_neT (a := 15) hc15 (by decide); have e16 := lv_neT (a := 16) hc16 (by decide); have e17 := lv_neT (a := 17) hc17 (by decide); omega) (by decide) ?_
  refine z_iconst (x := (-1)) (pc' := 223) dX12_count_222 (by decide) rfl ?_
  exact z_iret dX12_count_223 rfl ⟨_, _, rfl, rfl, h⟩
def rwp_X12_day_0 (E : ZE) (l : Launch) (d b : Nat) (A G : ZG) (Q : Option Value → ZS9 → Prop) (k : Nat) (x1 : Int32) (S : ZS9) : Prop :=
  ∀ S1, S1 = zup S 416 1 ((S 416 1) + 1) →
  zW E l mX12_day d b A (rQ G Q) k 12 [some (.ref (zp 416 0)), some (.int x1), some (.int 0), none] [] (zput G S1)
theorem rwpt_X12_day_0 {E : ZE} {l : Launch} {d b : Nat} {A G : ZG} {Q : Option Value → ZS9 → Prop} {k : Nat} {x1 : Int32} {S : ZS9} (hK : RK G) (h : rwp_X12_day_0 E l d b A G Q k x1 S) : zW E l mX12_day d b A (rQ G Q) k 0 [some (.ref (zp 416 0)), some (.int x1), none, none] [] (zput G S) := by
  unfold rwp_X12_day_0 at h
  refine z_aload_n (pc' := 1) dX12_day_0 rfl rfl ?_
  refine z_dup (pc' := 2) dX12_day_1 rfl rfl ?_
  refine r_getI (kf := 1) (pc' := 5) hK dX12_day_2 kX12_314 rfl (by decide) (by decide) rfl ?_
  refine z_iconst (x := 1) (pc' := 6) dX12_day_5 (by decide) rfl ?_
  refine z_iadd (pc' := 7) dX12_day_6 rfl rfl ?_
  obtain ⟨S1, hG⟩ : ∃ z, z = zup S 416 1 ((S 416 1) + 1) := ⟨_, rfl⟩
  have h := h _ hG
  refine r_putI (kf := 1) (pc' := 10) hK dX12_day_7 kX12_314 rfl (by decide) (by decide) rfl rfl (zok_int _) ?_
  refine r_st hG ?_
  refine z_iconst (x := 0) (pc' := 11) dX12_day_10 (by decide) rfl ?_
  refine z_istore_n (pc' := 12) dX12_day_11 (by decide) rfl ?_
  exact z_dr (ls' := [some (.ref (zp 416 0)), some (.int x1), some (.int 0), none]) ⟨rfl, rfl, rfl, trivial⟩ h
def rwp_X12_day_12 (E : ZE) (l : Launch) (d b : Nat) (A G : ZG) (Q : Option Value → ZS9 → Prop) (k : Nat) (x1 : Int32) (x2 : Int32) (S : ZS9) : Prop :=
  (((S 416 66) ≤ x2 →
    zW E l mX12_day d b A (rQ G Q) k 59 [some (.ref (zp 416 0)), some (.int x1), some (.int 0), some (.int 0)] [] (zput G S)) ∧
  (¬ ((S 416 66) ≤ x2) →
    rcI E l mX12_now d [.int x2, .int 0] S k (fun y3 S1 k2 =>
    ((¬ y3 = 6 →
      zW E l mX12_day d b A (rQ G Q) k2 12 [some (.ref (zp 416 0)), some (.int x1), some (.int (x2 + 1)), none] [] (zput G S1)) ∧
    (¬ (¬ y3 = 6) →
      rcI E l mX12_now d [.int x2, .int 4] S1 k2 (fun y6 S4 k5 =>
      (((S4 416 1) < y6 →
        zW E l mX12_day d b A (rQ G Q) k5 12 [some (.ref (zp 416 0)), some (.int x1), some (.int (x2 + 1)), none] [] (zput G S4)) ∧
      (¬ ((S4 416 1) < y6) →
        rcV E l mX12_gets d [.int x2] S4 k5 (fun S7 k8 =>
        zW E l mX12_day d b A (rQ G Q) k8 12 [some (.ref (zp 416 0)), some (.int x1), some (.int (x2 + 1)), none] [] (zput G S7))))))))))
theorem rwpt_X12_day_12 {E : ZE} {l : Launch} {d b : Nat} {A G : ZG} {Q : Option Value → ZS9 → Prop} {k : Nat} {x1 : Int32} {x2 : Int32} {S : ZS9} (hK : RK G) (h : rwp_X12_day_12 E l d b A G Q k x1 x2 S) : zW E l mX12_day d b A (rQ G Q) k 12 [some (.ref (zp 416 0)), some (.int x1), some (.int x2), none] [] (zput G S) := by
  unfold rwp_X12_day_12 at h
  refine z_iload_n (pc' := 13) dX12_day_12 rfl rfl ?_
  refine z_aload_n (pc' := 14) dX12_day_13 rfl rfl ?_
  refine r_getI (kf := 66) (pc' := 17) hK dX12_day_14 kX12_412 rfl (by decide) (by decide) rfl ?_
  refine z_icmp_ge (pt := 55) (pc' := 20) dX12_day_17 (by decide) rfl (fun hc => ?_) (fun hc => ?_)
  · have h := h.1 hc
    refine z_iconst (x := 0) (pc' := 56) dX12_day_55 (by decide) rfl ?_
    refine z_istore_n (pc' := 57) dX12_day_56 (by decide) rfl ?_
    refine z_iconst (x := 0) (pc' := 58) dX12_day_57 (by decide) rfl ?_
    refine z_istore_n (pc' := 59) dX12_day_58 (by decide) rfl ?_
    exact z_dr (ls' := [some (.ref (zp 416 0)), some (.int x1), some (.int 0), some (.int 0)]) ⟨rfl, rfl, rfl, rfl, trivial⟩ h
  · have h := h.2 hc
    refine z_aload_n (pc' := 21) dX12_day_20 rfl rfl ?_
    refine z_iload_n (pc' := 22) dX12_day_21 rfl rfl ?_
    refine z_iconst (x := 0) (pc' := 23) dX12_day_22 (by decide) rfl ?_
    refine r_callI (Y := mX12_now) (n := 2) (as := [.int x2, .int 0]) (st := []) (pc' := 26) h hK dX12_day_23 kX12_434 vX12_now rfl rfl rfl (Nat.le_of_ble_eq_true rfl) (fun y3 S1 k2 h => ?_)
    refine z_bipush (x := 6) (pc' := 28) dX12_day_26 (by decide) rfl ?_
    refine z_icmp_ne (pt := 49) (pc' := 31) dX12_day_28 (by decide) rfl (fun hc => ?_) (fun hc => ?_)
    · have h := h.1 hc
      refine z_iinc (y := x2 + 1) (pc' := 52) dX12_day_49 rfl (zinc_1 _) (by decide) rfl ?_
      refine z_goto (pc' := 12) dX12_day_52 (by decide) ?_
      exact z_dr (ls' := [some (.ref (zp 416 0)), some (.int x1), some (.int (x2 + 1)), none]) ⟨rfl, rfl, rfl, trivial⟩ h
    · have h := h.2 hc
      refine z_aload_n (pc' := 32) dX12_day_31 rfl rfl ?_
      refine z_iload_n (pc' := 33) dX12_day_32 rfl rfl ?_
      refine z_iconst (x := 4) (pc' := 34) dX12_day_33 (by decide) rfl ?_
      refine r_callI (Y := mX12_now) (n := 2) (as := [.int x2, .int 4]) (st := []) (pc' := 37) h hK dX12_day_34 kX12_434 vX12_now rfl rfl rfl (Nat.le_of_ble_eq_true rfl) (fun y6 S4 k5 h => ?_)
      refine z_aload_n (pc' := 38) dX12_day_37 rfl rfl ?_
      refine r_getI (kf := 1) (pc' := 41) hK dX12_day_38 kX12_314 rfl (by decide) (by decide) rfl ?_
      refine z_icmp_gt (pt := 49) (pc' := 44) dX12_day_41 (by decide) rfl (fun hc => ?_) (fun hc => ?_)
      · have h := h.1 hc
        refine z_iinc (y := x2 + 1) (pc' := 52) dX12_day_49 rfl (zinc_1 _) (by decide) rfl ?_
        refine z_goto (pc' := 12) dX12_day_52 (by decide) ?_
        exact z_dr (ls' := [some (.ref (zp 416 0)), some (.int x1), some (.int (x2 + 1)), none]) ⟨rfl, rfl, rfl, trivial⟩ h
      · have h := h.2 hc
        refine z_aload_n (pc' := 45) dX12_day_44 rfl rfl ?_
        refine z_iload_n (pc' := 46) dX12_day_45 rfl rfl ?_
        refine r_callV (Y := mX12_gets) (n := 1) (as := [.int x2]) (st := []) (pc' := 49) h hK dX12_day_46 kX12_459 vX12_gets rfl rfl rfl (Nat.le_of_ble_eq_true rfl) (fun S7 k8 h => ?_)
        refine z_iinc (y := x2 + 1) (pc' := 52) dX12_day_49 rfl (zinc_1 _) (by decide) rfl ?_
        refine z_goto (pc' := 12) dX12_day_52 (by decide) ?_
        exact z_dr (ls' := [some (.ref (zp 416 0)), some (.int x1), some (.int (x2 + 1)), none]) ⟨rfl, rfl, rfl, trivial⟩ h
def rwp_X12_day_59 (E : ZE) (l : Launch) (d b : Nat) (A G : ZG) (Q : Option Value → ZS9 → Prop) (k : Nat) (x1 : Int32) (x2 : Int32) (x3 : Int32) (S : ZS9) : Prop :=
  (((S 416 66) ≤ x3 →
    ∀ S1, S1 = zup S 416 74 (x2 / 3) →
    ∀ S2, S2 = zup S1 416 75 ((S1 416 75) + (S1 416 74)) →
    ∀ S3, S3 = zup S2 416 76 0 →
    zW E l mX12_day d b A (rQ G Q) k 136 [some (.ref (zp 416 0)), some (.int x1), none, some (.int 0)] [] (zput G S3)) ∧
  (¬ ((S 416 66) ≤ x3) →
    rcI E l mX12_now d [.int x3, .int 0] S k (fun y6 S4 k5 =>
    ((5 < y6 →
      zW E l mX12_day d b A (rQ G Q) k5 59 [some (.ref (zp 416 0)), some (.int x1), some (.int (x2 + 0)), some (.int (x3 + 1))] [] (zput G S4)) ∧
    (¬ (5 < y6) →
      vp_in x3 120 ∧
      ((((S4 416 1) - (S4 1155 x3.toNatClampNeg)) ≤ (S4 416 37) →
        zW E l mX12_day d b A (rQ G Q) k5 59 [some (.ref (zp 416 0)), some (.int x1), some (.int (x2 + 0)), some (.int (x3 + 1))] [] (zput G S4)) ∧
      (¬ (((S4 416 1) - (S4 1155 x3.toNatClampNeg)) ≤ (S4 416 37)) →
        zW E l mX12_day d b A (rQ G Q) k5 59 [some (.ref (zp 416 0)), some (.int x1), some (.int (x2 + 1)), some (.int (x3 + 1))] [] (zput G S4))))))))
theorem rwpt_X12_day_59 {E : ZE} {l : Launch} {d b : Nat} {A G : ZG} {Q : Option Value → ZS9 → Prop} {k : Nat} {x1 : Int32} {x2 : Int32} {x3 : Int32} {S : ZS9} (hK : RK G) (h : rwp_X12_day_59 E l d b A G Q k x1 x2 x3 S) : zW E l mX12_day d b A (rQ G Q) k 59 [some (.ref (zp 416 0)), some (.int x1), some (.int x2), some (.int x3)] [] (zput G S) := by
  unfold rwp_X12_day_59 at h
  refine z_iload_n (pc' := 60) dX12_day_59 rfl rfl ?_
  refine z_aload_n (pc' := 61) dX12_day_60 rfl rfl ?_
  refine r_getI (kf := 66) (pc' := 64) hK dX12_day_61 kX12_412 rfl (by decide) (by decide) rfl ?_
  refine z_icmp_ge (pt := 109) (pc' := 67) dX12_day_64 (by decide) rfl (fun hc => ?_) (fun hc => ?_)
  · have h := h.1 hc
    refine z_aload_n (pc' := 110) dX12_day_109 rfl rfl ?_
    refine z_iload_n (pc' := 111) dX12_day_110 rfl rfl ?_
    refine z_iconst (x := 3) (pc' := 112) dX12_day_111 (by decide) rfl ?_
    refine z_idiv (pc' := 113) dX12_day_112 (by decide) rfl rfl ?_
    obtain ⟨S1, hG⟩ : ∃ z, z = zup S 416 74 (x2 / 3) := ⟨_, rfl⟩
    have h := h _ hG
    refine r_putI (kf := 74) (pc' := 116) hK dX12_day_113 kX12_465 rfl (by decide) (by decide) rfl rfl (zok_int _) ?_
    refine r_st hG ?_
    refine z_aload_n (pc' := 117) dX12_day_116 rfl rfl ?_
    refine z_dup (pc' := 118) dX12_day_117 rfl rfl ?_
    refine r_getI (kf := 75) (pc' := 121) hK dX12_day_118 kX12_484 rfl (by decide) (by decide) rfl ?_
    refine z_aload_n (pc' := 122) dX12_day_121 rfl rfl ?_
    refine r_getI (kf := 74) (pc' := 125) hK dX12_day_122 kX12_465 rfl (by decide) (by decide) rfl ?_
    refine z_iadd (pc' := 126) dX12_day_125 rfl rfl ?_
    obtain ⟨S2, hG⟩ : ∃ z, z = zup S1 416 75 ((S1 416 75) + (S1 416 74)) := ⟨_, rfl⟩
    have h := h _ hG
    refine r_putI (kf := 75) (pc' := 129) hK dX12_day_126 kX12_484 rfl (by decide) (by decide) rfl rfl (zok_int _) ?_
    refine r_st hG ?_
    refine z_aload_n (pc' := 130) dX12_day_129 rfl rfl ?_
    refine z_iconst (x := 0) (pc' := 131) dX12_day_130 (by decide) rfl ?_
    obtain ⟨S3, hG⟩ : ∃ z, z = zup S2 416 76 0 := ⟨_, rfl⟩
    have h := h _ hG
    refine r_putI (kf := 76) (pc' := 134) hK dX12_day_131 kX12_481 rfl (by decide) (by decide) rfl rfl (zok_int _) ?_
    refine r_st hG ?_
    refine z_iconst (x := 0) (pc' := 135) dX12_day_134 (by decide) rfl ?_
    refine z_istore_n (pc' := 136) dX12_day_135 (by decide) rfl ?_
    exact z_dr (ls' := [some (.ref (zp 416 0)), some (.int x1), none, some (.int 0)]) ⟨rfl, rfl, rfl, trivial⟩ h
  · have h := h.2 hc
    refine z_iload_n (pc' := 68) dX12_day_67 rfl rfl ?_
    refine z_aload_n (pc' := 69) dX12_day_68 rfl rfl ?_
    refine z_iload_n (pc' := 70) dX12_day_69 rfl rfl ?_
    refine z_iconst (x := 0) (pc' := 71) dX12_day_70 (by decide) rfl ?_
    refine r_callI (Y := mX12_now) (n := 2) (as := [.int x3, .int 0]) (st := [.int x2]) (pc' := 74) h hK dX12_day_71 kX12_434 vX12_now rfl rfl rfl (Nat.le_of_ble_eq_true rfl) (fun y6 S4 k5 h => ?_)
    refine z_iconst (x := 5) (pc' := 75) dX12_day_74 (by decide) rfl ?_
    refine z_icmp_gt (pt := 100) (pc' := 78) dX12_day_75 (by decide) rfl (fun hc => ?_) (fun hc => ?_)
    · have h := h.1 hc
      refine z_iconst (x := 0) (pc' := 101) dX12_day_100 (by decide) rfl ?_
      refine z_iadd (pc' := 102) dX12_day_101 rfl rfl ?_
      refine z_istore_n (pc' := 103) dX12_day_102 (by decide) rfl ?_
      refine z_iinc (y := x3 + 1) (pc' := 106) dX12_day_103 rfl (zinc_1 _) (by decide) rfl ?_
      refine z_goto (pc' := 59) dX12_day_106 (by decide) ?_
      exact z_dr (ls' := [some (.ref (zp 416 0)), some (.int x1), some (.int (x2 + 0)), some (.int (x3 + 1))]) ⟨rfl, rfl, rfl, rfl, trivial⟩ h
    · have h := h.2 hc
      refine z_aload_n (pc' := 79) dX12_day_78 rfl rfl ?_
      refine r_getI (kf := 1) (pc' := 82) hK dX12_day_79 kX12_314 rfl (by decide) (by decide) rfl ?_
      refine z_aload_n (pc' := 83) dX12_day_82 rfl rfl ?_
      refine r_getA (kf := 55) (pc' := 86) hK rt_55 dX12_day_83 kX12_118 rfl (by decide) (by decide) rfl ?_
      refine z_iload_n (pc' := 87) dX12_day_86 rfl rfl ?_
      obtain ⟨h1, h⟩ := h
      refine r_iald (pc' := 88) hK rt_55 rfl dX12_day_87 rfl h1 ?_
      refine z_isub (pc' := 89) dX12_day_88 rfl rfl ?_
      refine z_aload_n (pc' := 90) dX12_day_89 rfl rfl ?_
      refine r_getI (kf := 37) (pc' := 93) hK dX12_day_90 kX12_76 rfl (by decide) (by decide) rfl ?_
      refine z_icmp_le (pt := 100) (pc' := 96) dX12_day_93 (by decide) rfl (fun hc => ?_) (fun hc => ?_)
      · have h := h.1 hc
        refine z_iconst (x := 0) (pc' := 101) dX12_day_100 (by decide) rfl ?_
        refine z_iadd (pc' := 102) dX12_day_101 rfl rfl ?_
        refine z_istore_n (pc' := 103) dX12_day_102 (by decide) rfl ?_
        refine z_iinc (y := x3 + 1) (pc' := 106) dX12_day_103 rfl (zinc_1 _) (by decide) rfl ?_
        refine z_goto (pc' := 59) dX12_day_106 (by decide) ?_
        exact z_dr (ls' := [some (.ref (zp 416 0)), some (.int x1), some (.int (x2 + 0)), some (.int (x3 + 1))]) ⟨rfl, rfl, rfl, rfl, trivial⟩ h
      · have h := h.2 hc
        refine z_iconst (x := 1) (pc' := 97) dX12_day_96 (by decide) rfl ?_
        refine z_goto (pc' := 101) dX12_day_97 (by decide) ?_
        refine z_iadd (pc' := 102) dX12_day_101 rfl rfl ?_
        refine z_istore_n (pc' := 103) dX12_day_102 (by decide) rfl ?_
        refine z_iinc (y := x3 + 1) (pc' := 106) dX12_day_103 rfl (zinc_1 _) (by decide) rfl ?_
        refine z_goto (pc' := 59) dX12_day_106 (by decide) ?_
        exact z_dr (ls' := [some (.ref (zp 416 0)), some (.int x1), some (.int (x2 + 1)), some (.int (x3 + 1))]) ⟨rfl, rfl, rfl, rfl, trivial⟩ h
def rwp_X12_day_136 (E : ZE) (l : Launch) (d b : Nat) (A G : ZG) (Q : Option Value → ZS9 → Prop) (k : Nat) (x1 : Int32) (x3 : Int32) (S : ZS9) : Prop :=
  ((4 ≤ x3 →
    Q none S) ∧
  (¬ (4 ≤ x3) →
    rcV E l mX12_works d [.int x3, .int x1] S k (fun S1 k2 =>
    zW E l mX12_day d b A (rQ G Q) k2 136 [some (.ref (zp 416 0)), some (.int x1), none, some (.int (x3 + 1))] [] (zput G S1))))
theorem rwpt_X12_day_136 {E : ZE} {l : Launch} {d b : Nat} {A G : ZG} {Q : Option Value → ZS9 → Prop} {k : Nat} {x1 : Int32} {x3 : Int32} {S : ZS9} (hK : RK G) (h : rwp_X12_day_136 E l d b A G Q k x1 x3 S) : zW E l mX12_day d b A (rQ G Q) k 136 [some (.ref (zp 416 0)), some (.int x1), none, some (.int x3)] [] (zput G S) := by
  unfold rwp_X12_day_136 at h
  refine z_iload_n (pc' := 137) dX12_day_136 rfl rfl ?_
  refine z_iconst (x := 4) (pc' := 138) dX12_day_137 (by decide) rfl ?_
  refine z_icmp_ge (pt := 153) (pc' := 141) dX12_day_138 (by decide) rfl (fun hc => ?_) (fun hc => ?_)
  · have h := h.1 hc
    exact z_vret dX12_day_153 rfl ⟨_, _, rfl, rfl, h⟩
  · have h := h.2 hc
    refine z_aload_n (pc' := 142) dX12_day_141 rfl rfl ?_
    refine z_iload_n (pc' := 143) dX12_day_142 rfl rfl ?_
    refine z_iload_n (pc' := 144) dX12_day_143 rfl rfl ?_
    refine r_callV (Y := mX12_works) (n := 2) (as := [.int x3, .int x1]) (st := []) (pc' := 147) h hK dX12_day_144 kX12_487 vX12_works rfl rfl rfl (Nat.le_of_ble_eq_true rfl) (fun S1 k2 h => ?_)
    refine z_iinc (y := x3 + 1) (pc' := 150) dX12_day_147 rfl (zinc_1 _) (by decide) rfl ?_
    refine z_goto (pc' := 136) dX12_day_150 (by decide) ?_
    exact z_dr (ls' := [some (.ref (zp 416 0)), some (.int x1), none, some (.int (x3 + 1))]) ⟨rfl, rfl, rfl, trivial⟩ h
def rwp_X12_days_0 (E : ZE) (l : Launch) (d b : Nat) (A G : ZG) (Q : Option Value → ZS9 → Prop) (k : Nat) (x1 : Int32) (S : ZS9) : Prop :=
  ∀ S1, S1 = zup S 416 0 0 →
  scI E l mX12_in d [.int x1, .int 0, .int 60] (fun y2 =>
  ((¬ y2 = 0 →
    rcI E l mX12_throwsIf d [.int 0, .int 1] S1 k (fun y5 S3 k4 =>
    ((y5 = 0 →
      zW E l mX12_days d b A (rQ G Q) k4 32 [some (.ref (zp 416 0)), some (.int x1), some (.int 0)] [] (zput G S3)) ∧
    (¬ (y5 = 0) →
      Q (some (.int 0)) S3)))) ∧
  (¬ (¬ y2 = 0) →
    rcI E l mX12_throwsIf d [.int 1, .int 1] S1 k (fun y8 S6 k7 =>
    ((y8 = 0 →
      zW E l mX12_days d b A (rQ G Q) k7 32 [some (.ref (zp 416 0)), some (.int x1), some (.int 0)] [] (zput G S6)) ∧
    (¬ (y8 = 0) →
      Q (some (.int 0)) S6))))))
theorem rwpt_X12_days_0 {E : ZE} {l : Launch} {d b : Nat} {A G : ZG} {Q : Option Value → ZS9 → Prop} {k : Nat} {x1 : Int32} {S : ZS9} (hK : RK G) (h : rwp_X12_days_0 E l d b A G Q k x1 S) : zW E l mX12_days d b A (rQ G Q) k 0 [some (.ref (zp 416 0)), some (.int x1), none] [] (zput G S) := by
  unfold rwp_X12_days_0 at h
  refine z_aload_n (pc' := 1) dX12_days_0 rfl rfl ?_
  refine z_iconst (x := 0) (pc' := 2) dX12_days_1 (by decide) rfl ?_
  obtain ⟨S1, hG⟩ : ∃ z, z = zup S 416 0 0 := ⟨_, rfl⟩
  have h := h _ hG
  refine r_putI (kf := 0) (pc' := 5) hK dX12_days_2 kX12_178 rfl (by decide) (by decide) rfl rfl (zok_int _) ?_
  refine r_st hG ?_
  refine z_aload_n (pc' := 6) dX12_days_5 rfl rfl ?_
  refine z_iload_n (pc' := 7) dX12_days_6 rfl rfl ?_
  refine z_iconst (x := 0) (pc' := 8) dX12_days_7 (by decide) rfl ?_
  refine z_bipush (x := 60) (pc' := 10) dX12_days_8 (by decide) rfl ?_
  refine r_callSI (Y := mX12_in) (n := 3) (as := [.int x1, .int 0, .int 60]) (st := [.ref (zp 416 0)]) (pc' := 13) h dX12_days_10 kX12_317 sX12_in rfl rfl (Nat.le_of_ble_eq_true rfl) (fun y2 h => ?_)
  refine z_if_ne (pt := 20) (pc' := 16) dX12_days_13 (by decide) rfl (fun hc => ?_) (fun hc => ?_)
  · have h := h.1 hc
    refine z_iconst (x := 0) (pc' := 21) dX12_days_20 (by decide) rfl ?_
    refine z_iconst (x := 1) (pc' := 22) dX12_days_21 (by decide) rfl ?_
    refine r_callI (Y := mX12_throwsIf) (n := 2) (as := [.int 0, .int 1]) (st := []) (pc' := 25) h hK dX12_days_22 kX12_321 vX12_throwsIf rfl rfl rfl (Nat.le_of_ble_eq_true rfl) (fun y5 S3 k4 h => ?_)
    refine z_if_eq (pt := 30) (pc' := 28) dX12_days_25 (by decide) rfl (fun hc => ?_) (fun hc => ?_)
    · have h := h.1 hc
      refine z_iconst (x := 0) (pc' := 31) dX12_days_30 (by decide) rfl ?_
      refine z_istore_n (pc' := 32) dX12_days_31 (by decide) rfl ?_
      exact z_dr (ls' := [some (.ref (zp 416 0)), some (.int x1), some (.int 0)]) ⟨rfl, rfl, rfl, trivial⟩ h
    · have h := h.2 hc
      refine z_iconst (x := 0) (pc' := 29) dX12_days_28 (by decide) rfl ?_
      exact z_iret dX12_days_29 rfl ⟨_, _, rfl, rfl, h⟩
  · have h := h.2 hc
    refine z_iconst (x := 1) (pc' := 17) dX12_days_16 (by decide) rfl ?_
    refine z_goto (pc' := 21) dX12_days_17 (by decide) ?_
    refine z_iconst (x := 1) (pc' := 22) dX12_days_21 (by decide) rfl ?_
    refine r_callI (Y := mX12_throwsIf) (n := 2) (as := [.int 1, .int 1]) (st := []) (pc' := 25) h hK dX12_days_22 kX12_321 vX12_throwsIf rfl rfl rfl (Nat.le_of_ble_eq_true rfl) (fun y8 S6 k7 h => ?_)
    refine z_if_eq (pt := 30) (pc' := 28) dX12_days_25 (by decide) rfl (fun hc => ?_) (fun hc => ?_)
    · have h := h.1 hc
      refine z_iconst (x := 0) (pc' := 31) dX12_days_30 (by decide) rfl ?_
      refine z_istore_n (pc' := 32) dX12_days_31 (by decide) rfl ?_
      exact z_dr (ls' := [some (.ref (zp 416 0)), some (.int x1), some (.int 0)]) ⟨rfl, rfl, rfl, trivial⟩ h
    · have h := h.2 hc
      refine z_iconst (x := 0) (pc' := 29) dX12_days_28 (by decide) rfl ?_
      exact z_iret dX12_days_29 rfl ⟨_, _, rfl, rfl, h⟩
def rwp_X12_days_32 (E : ZE) (l : Launch) (d b : Nat) (A G : ZG) (Q : Option Value → ZS9 → Prop) (k : Nat) (x1 : Int32) (x2 : Int32) (S : ZS9) : Prop :=
  ((x1 ≤ x2 →
    Q (some (.int (S 416 1))) S) ∧
  (¬ (x1 ≤ x2) →
    ((1000 ≤ (S 416 1) →
      Q (some (.int (S 416 1))) S) ∧
    (¬ (1000 ≤ (S 416 1)) →
      rcV E l mX12_day d [.int (S 416 42)] S k (fun S1 k2 =>
      zW E l mX12_days d b A (rQ G Q) k2 32 [some (.ref (zp 416 0)), some (.int x1), some (.int (x2 + 1))] [] (zput G S1))))))
theorem rwpt_X12_days_32 {E : ZE} {l : Launch} {d b : Nat} {A G : ZG} {Q : Option Value → ZS9 → Prop} {k : Nat} {x1 : Int32} {x2 : Int32} {S : ZS9} (hK : RK G) (h : rwp_X12_days_32 E l d b A G Q k x1 x2 S) : zW E l mX12_days d b A (rQ G Q) k 32 [some (.ref (zp 416 0)), some (.int x1), some (.int x2)] [] (zput G S) := by
  unfold rwp_X12_days_32 at h
  refine z_iload_n (pc' := 33) dX12_days_32 rfl rfl ?_
  refine z_iload_n (pc' := 34) dX12_days_33 rfl rfl ?_
  refine z_icmp_ge (pt := 61) (pc' := 37) dX12_days_34 (by decide) rfl (fun hc => ?_) (fun hc => ?_)
  · have h := h.1 hc
    refine z_aload_n (pc' := 62) dX12_days_61 rfl rfl ?_
    refine r_getI (kf := 1) (pc' := 65) hK dX12_days_62 kX12_314 rfl (by decide) (by decide) rfl ?_
    exact z_iret dX12_days_65 rfl ⟨_, _, rfl, rfl, h⟩
  · have h := h.2 hc
    refine z_aload_n (pc' := 38) dX12_days_37 rfl rfl ?_
    refine r_getI (kf := 1) (pc' := 41) hK dX12_days_38 kX12_314 rfl (by decide) (by decide) rfl ?_
    refine z_sipush (x := 1000) (pc' := 44) dX12_days_41 (by decide) rfl ?_
    refine z_icmp_ge (pt := 61) (pc' := 47) dX12_days_44 (by decide) rfl (fun hc => ?_) (fun hc => ?_)
    · have h := h.1 hc
      refine z_aload_n (pc' := 62) dX12_days_61 rfl rfl ?_
      refine r_getI (kf := 1) (pc' := 65) hK dX12_days_62 kX12_314 rfl (by decide) (by decide) rfl ?_
      exact z_iret dX12_days_65 rfl ⟨_, _, rfl, rfl, h⟩
    · have h := h.2 hc
      refine z_aload_n (pc' := 48) dX12_days_47 rfl rfl ?_
      refine z_aload_n (pc' := 49) dX12_days_48 rfl rfl ?_
      refine r_getI (kf := 42) (pc' := 52) hK dX12_days_49 kX12_403 rfl (by decide) (by decide) rfl ?_
      refine r_callV (Y := mX12_day) (n := 1) (as := [.int (S 416 42)]) (st := []) (pc' := 55) h hK dX12_days_52 kX12_490 vX12_day rfl rfl rfl (Nat.le_of_ble_eq_true rfl) (fun S1 k2 h => ?_)
      refine z_iinc (y := x2 + 1) (pc' := 58) dX12_days_55 rfl (zinc_1 _) (by decide) rfl ?_
      refine z_goto (pc' := 32) dX12_days_58 (by decide) ?_
      exact z_dr (ls' := [some (.ref (zp 416 0)), some (.int x1), some (.int (x2 + 1))]) ⟨rfl, rfl, rfl, trivial⟩ h
