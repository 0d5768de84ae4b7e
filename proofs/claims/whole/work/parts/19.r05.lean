/-! what the reference's methods come to, in its numbers -/
def rwp_X12_takes_0 (E : ZE) (l : Launch) (d b : Nat) (A G : ZG) (Q : Option Value → ZS9 → Prop) (k : Nat) (x1 : Int32) (x2 : Int32) (S : ZS9) : Prop :=
  ((¬ x1 = 0 →
    ((¬ x1 = 1 →
      ((¬ x1 = 2 →
        Q (some (.int 1)) S) ∧
      (¬ (¬ x1 = 2) →
        Q (some (.int 6)) S))) ∧
    (¬ (¬ x1 = 1) →
      vp_in x2 120 ∧
      Q (some (.int (3 + (S 1162 x2.toNatClampNeg)))) S))) ∧
  (¬ (¬ x1 = 0) →
    rcI E l mX12_now d [.int x2, .int 2] S k (fun y3 S1 k2 =>
    ((0 ≤ y3 →
      Q (some (.int 1)) S1) ∧
    (¬ (0 ≤ y3) →
      Q (some (.int 2)) S1)))))
theorem rwpt_X12_takes_0 {E : ZE} {l : Launch} {d b : Nat} {A G : ZG} {Q : Option Value → ZS9 → Prop} {k : Nat} {x1 : Int32} {x2 : Int32} {S : ZS9} (hK : RK G) (h : rwp_X12_takes_0 E l d b A G Q k x1 x2 S) : zW E l mX12_takes d b A (rQ G Q) k 0 [some (.ref (zp 416 0)), some (.int x1), some (.int x2)] [] (zput G S) := by
  unfold rwp_X12_takes_0 at h
  refine z_iload_n (pc' := 1) dX12_takes_0 rfl rfl ?_
  refine z_if_ne (pt := 21) (pc' := 4) dX12_takes_1 (by decide) rfl (fun hc => ?_) (fun hc => ?_)
  · have h := h.1 hc
    refine z_iload_n (pc' := 22) dX12_takes_21 rfl rfl ?_
    refine z_iconst (x := 1) (pc' := 23) dX12_takes_22 (by decide) rfl ?_
    refine z_icmp_ne (pt := 37) (pc' := 26) dX12_takes_23 (by decide) rfl (fun hc => ?_) (fun hc => ?_)
    · have h := h.1 hc
      refine z_iload_n (pc' := 38) dX12_takes_37 rfl rfl ?_
      refine z_iconst (x := 2) (pc' := 39) dX12_takes_38 (by decide) rfl ?_
      refine z_icmp_ne (pt := 47) (pc' := 42) dX12_takes_39 (by decide) rfl (fun hc => ?_) (fun hc => ?_)
      · have h := h.1 hc
        refine z_iconst (x := 1) (pc' := 48) dX12_takes_47 (by decide) rfl ?_
        exact z_iret dX12_takes_48 rfl ⟨_, _, rfl, rfl, h⟩
      · have h := h.2 hc
        refine z_bipush (x := 6) (pc' := 44) dX12_takes_42 (by decide) rfl ?_
        refine z_goto (pc' := 48) dX12_takes_44 (by decide) ?_
        exact z_iret dX12_takes_48 rfl ⟨_, _, rfl, rfl, h⟩
    · have h := h.2 hc
      refine z_iconst (x := 3) (pc' := 27) dX12_takes_26 (by decide) rfl ?_
      refine z_aload_n (pc' := 28) dX12_takes_27 rfl rfl ?_
      refine r_getA (kf := 62) (pc' := 31) hK rt_62 dX12_takes_28 kX12_139 rfl (by decide) (by decide) rfl ?_
      refine z_iload_n (pc' := 32) dX12_takes_31 rfl rfl ?_
      obtain ⟨h1, h⟩ := h
      refine r_iald (pc' := 33) hK rt_62 rfl dX12_takes_32 rfl h1 ?_
      refine z_iadd (pc' := 34) dX12_takes_33 rfl rfl ?_
      refine z_goto (pc' := 48) dX12_takes_34 (by decide) ?_
      exact z_iret dX12_takes_48 rfl ⟨_, _, rfl, rfl, h⟩
  · have h := h.2 hc
    refine z_aload_n (pc' := 5) dX12_takes_4 rfl rfl ?_
    refine z_iload_n (pc' := 6) dX12_takes_5 rfl rfl ?_
    refine z_iconst (x := 2) (pc' := 7) dX12_takes_6 (by decide) rfl ?_
    refine r_callI (Y := mX12_now) (n := 2) (as := [.int x2, .int 2]) (st := []) (pc' := 10) h hK dX12_takes_7 kX12_434 vX12_now rfl rfl rfl (Nat.le_of_ble_eq_true rfl) (fun y3 S1 k2 h => ?_)
    refine z_if_ge (pt := 17) (pc' := 13) dX12_takes_10 (by decide) rfl (fun hc => ?_) (fun hc => ?_)
    · have h := h.1 hc
      refine z_iconst (x := 1) (pc' := 18) dX12_takes_17 (by decide) rfl ?_
      refine z_goto (pc' := 48) dX12_takes_18 (by decide) ?_
      exact z_iret dX12_takes_48 rfl ⟨_, _, rfl, rfl, h⟩
    · have h := h.2 hc
      refine z_iconst (x := 2) (pc' := 14) dX12_takes_13 (by decide) rfl ?_
      refine z_goto (pc' := 48) dX12_takes_14 (by decide) ?_
      exact z_iret dX12_takes_48 rfl ⟨_, _, rfl, rfl, h⟩
def rwp_X12_tell_0 (E : ZE) (l : Launch) (d b : Nat) (A G : ZG) (Q : Option Value → ZS9 → Prop) (k : Nat) (x1 : Int32) (x2 : Int32) (x3 : Int32) (S : ZS9) : Prop :=
  ∀ S1, S1 = zup S 416 0 0 →
  rcI E l mX12_nobody d [.int x1] S1 k (fun y4 S2 k3 =>
  ((¬ y4 = 0 →
    zW E l mX12_tell d b A (rQ G Q) k3 22 [some (.ref (zp 416 0)), some (.int x1), some (.int x2), some (.int x3), none, none] [.ref (zp 416 0)] (zput G S2)) ∧
  (¬ (¬ y4 = 0) →
    rcI E l mX12_nobody d [.int x2] S2 k3 (fun y7 S5 k6 =>
    ((y7 = 0 →
      rcI E l mX12_throwsIf d [.int 0, .int 1] S5 k6 (fun y10 S8 k9 =>
      ((¬ y10 = 0 →
        Q (some (.int 0)) S8) ∧
      (¬ (¬ y10 = 0) →
        ((¬ x1 = x2 →
          zW E l mX12_tell d b A (rQ G Q) k9 45 [some (.ref (zp 416 0)), some (.int x1), some (.int x2), some (.int x3), none, none] [.int 0, .ref (zp 416 0)] (zput G S8)) ∧
        (¬ (¬ x1 = x2) →
          zW E l mX12_tell d b A (rQ G Q) k9 45 [some (.ref (zp 416 0)), some (.int x1), some (.int x2), some (.int x3), none, none] [.int 1, .ref (zp 416 0)] (zput G S8))))))) ∧
    (¬ (y7 = 0) →
      zW E l mX12_tell d b A (rQ G Q) k6 22 [some (.ref (zp 416 0)), some (.int x1), some (.int x2), some (.int x3), none, none] [.ref (zp 416 0)] (zput G S5)))))))
theorem rwpt_X12_tell_0 {E : ZE} {l : Launch} {d b : Nat} {A G : ZG} {Q : Option Value → ZS9 → Prop} {k : Nat} {x1 : Int32} {x2 : Int32} {x3 : Int32} {S : ZS9} (hK : RK G) (h : rwp_X12_tell_0 E l d b A G Q k x1 x2 x3 S) : zW E l mX12_tell d b A (rQ G Q) k 0 [some (.ref (zp 416 0)), some (.int x1), some (.int x2), some (.int x3), none, none] [] (zput G S) := by
  unfold rwp_X12_tell_0 at h
  refine z_aload_n (pc' := 1) dX12_tell_0 rfl rfl ?_
  refine z_iconst (x := 0) (pc' := 2) dX12_tell_1 (by decide) rfl ?_
  obtain ⟨S1, hG⟩ : ∃ z, z = zup S 416 0 0 := ⟨_, rfl⟩
  have h := h _ hG
  refine r_putI (kf := 0) (pc' := 5) hK dX12_tell_2 kX12_178 rfl (by decide) (by decide) rfl rfl (zok_int _) ?_
  refine r_st hG ?_
  refine z_aload_n (pc' := 6) dX12_tell_5 rfl rfl ?_
  refine z_aload_n (pc' := 7) dX12_tell_6 rfl rfl ?_
  refine z_iload_n (pc' := 8) dX12_tell_7 rfl rfl ?_
  refine r_callI (Y := mX12_nobody) (n := 1) (as := [.int x1]) (st := [.ref (zp 416 0)]) (pc' := 11) h hK dX12_tell_8 kX12_385 vX12_nobody rfl rfl rfl (Nat.le_of_ble_eq_true rfl) (fun y4 S2 k3 h => ?_)
  refine z_if_ne (pt := 22) (pc' := 14) dX12_tell_11 (by decide) rfl (fun hc => ?_) (fun hc => ?_)
  · have h := h.1 hc
    exact z_dr (ls' := [some (.ref (zp 416 0)), some (.int x1), some (.int x2), some (.int x3), none, none]) ⟨rfl, rfl, rfl, rfl, trivial⟩ h
  · have h := h.2 hc
    refine z_aload_n (pc' := 15) dX12_tell_14 rfl rfl ?_
    refine z_iload_n (pc' := 16) dX12_tell_15 rfl rfl ?_
    refine r_callI (Y := mX12_nobody) (n := 1) (as := [.int x2]) (st := [.ref (zp 416 0)]) (pc' := 19) h hK dX12_tell_16 kX12_385 vX12_nobody rfl rfl rfl (Nat.le_of_ble_eq_true rfl) (fun y7 S5 k6 h => ?_)
    refine z_if_eq (pt := 26) (pc' := 22) dX12_tell_19 (by decide) rfl (fun hc => ?_) (fun hc => ?_)
    · have h := h.1 hc
      refine z_iconst (x := 0) (pc' := 27) dX12_tell_26 (by decide) rfl ?_
      refine z_iconst (x := 1) (pc' := 28) dX12_tell_27 (by decide) rfl ?_
      refine r_callI (Y := mX12_throwsIf) (n := 2) (as := [.int 0, .int 1]) (st := []) (pc' := 31) h hK dX12_tell_28 kX12_321 vX12_throwsIf rfl rfl rfl (Nat.le_of_ble_eq_true rfl) (fun y10 S8 k9 h => ?_)
      refine z_if_ne (pt := 52) (pc' := 34) dX12_tell_31 (by decide) rfl (fun hc => ?_) (fun hc => ?_)
      · have h := h.1 hc
        refine z_iconst (x := 0) (pc' := 53) dX12_tell_52 (by decide) rfl ?_
        exact z_iret dX12_tell_53 rfl ⟨_, _, rfl, rfl, h⟩
      · have h := h.2 hc
        refine z_aload_n (pc' := 35) dX12_tell_34 rfl rfl ?_
        refine z_iload_n (pc' := 36) dX12_tell_35 rfl rfl ?_
        refine z_iload_n (pc' := 37) dX12_tell_36 rfl rfl ?_
        refine z_icmp_ne (pt := 44) (pc' := 40) dX12_tell_37 (by decide) rfl (fun hc => ?_) (fun hc => ?_)
        · have h := h.1 hc
          refine z_iconst (x := 0) (pc' := 45) dX12_tell_44 (by decide) rfl ?_
          exact z_dr (ls' := [some (.ref (zp 416 0)), some (.int x1), some (.int x2), some (.int x3), none, none]) ⟨rfl, rfl, rfl, rfl, trivial⟩ h
        · have h := h.2 hc
          refine z_iconst (x := 1) (pc' := 41) dX12_tell_40 (by decide) rfl ?_
          refine z_goto (pc' := 45) dX12_tell_41 (by decide) ?_
          exact z_dr (ls' := [some (.ref (zp 416 0)), some (.int x1), some (.int x2), some (.int x3), none, none]) ⟨rfl, rfl, rfl, rfl, trivial⟩ h
    · have h := h.2 hc
      exact z_dr (ls' := [some (.ref (zp 416 0)), some (.int x1), some (.int x2), some (.int x3), none, none]) ⟨rfl, rfl, rfl, rfl, trivial⟩ h
def rwp_X12_tell_22 (E : ZE) (l : Launch) (d b : Nat) (A G : ZG) (Q : Option Value → ZS9 → Prop) (k : Nat) (x1 : Int32) (x2 : Int32) (x3 : Int32) (S : ZS9) : Prop :=
  rcI E l mX12_throwsIf d [.int 1, .int 1] S k (fun y3 S1 k2 =>
  ((¬ y3 = 0 →
    Q (some (.int 0)) S1) ∧
  (¬ (¬ y3 = 0) →
    ((¬ x1 = x2 →
      zW E l mX12_tell d b A (rQ G Q) k2 45 [some (.ref (zp 416 0)), some (.int x1), some (.int x2), some (.int x3), none, none] [.int 0, .ref (zp 416 0)] (zput G S1)) ∧
    (¬ (¬ x1 = x2) →
      zW E l mX12_tell d b A (rQ G Q) k2 45 [some (.ref (zp 416 0)), some (.int x1), some (.int x2), some (.int x3), none, none] [.int 1, .ref (zp 416 0)] (zput G S1))))))
theorem rwpt_X12_tell_22 {E : ZE} {l : Launch} {d b : Nat} {A G : ZG} {Q : Option Value → ZS9 → Prop} {k : Nat} {x1 : Int32} {x2 : Int32} {x3 : Int32} {S : ZS9} (hK : RK G) (h : rwp_X12_tell_22 E l d b A G Q k x1 x2 x3 S) : zW E l mX12_tell d b A (rQ G Q) k 22 [some (.ref (zp 416 0)), some (.int x1), some (.int x2), some (.int x3), none, none] [.ref (zp 416 0)] (zput G S) := by
  unfold rwp_X12_tell_22 at h
  refine z_iconst (x := 1) (pc' := 23) dX12_tell_22 (by decide) rfl ?_
  refine z_goto (pc' := 27) dX12_tell_23 (by decide) ?_
  refine z_iconst (x := 1) (pc' := 28) dX12_tell_27 (by decide) rfl ?_
  refine r_callI (Y := mX12_throwsIf) (n := 2) (as := [.int 1, .int 1]) (st := []) (pc' := 31) h hK dX12_tell_28 kX12_321 vX12_throwsIf rfl rfl rfl (Nat.le_of_ble_eq_true rfl) (fun y3 S1 k2 h => ?_)
  refine z_if_ne (pt := 52) (pc' := 34) dX12_tell_31 (by decide) rfl (fun hc => ?_) (fun hc => ?_)
  · have h := h.1 hc
    refine z_iconst (x := 0) (pc' := 53) dX12_tell_52 (by decide) rfl ?_
    exact z_iret dX12_tell_53 rfl ⟨_, _, rfl, rfl, h⟩
  · have h := h.2 hc
    refine z_aload_n (pc' := 35) dX12_tell_34 rfl rfl ?_
    refine z_iload_n (pc' := 36) dX12_tell_35 rfl rfl ?_
    refine z_iload_n (pc' := 37) dX12_tell_36 rfl rfl ?_
    refine z_icmp_ne (pt := 44) (pc' := 40) dX12_tell_37 (by decide) rfl (fun hc => ?_) (fun hc => ?_)
    · have h := h.1 hc
      refine z_iconst (x := 0) (pc' := 45) dX12_tell_44 (by decide) rfl ?_
      exact z_dr (ls' := [some (.ref (zp 416 0)), some (.int x1), some (.int x2), some (.int x3), none, none]) ⟨rfl, rfl, rfl, rfl, trivial⟩ h
    · have h := h.2 hc
      refine z_iconst (x := 1) (pc' := 41) dX12_tell_40 (by decide) rfl ?_
      refine z_goto (pc' := 45) dX12_tell_41 (by decide) ?_
      exact z_dr (ls' := [some (.ref (zp 416 0)), some (.int x1), some (.int x2), some (.int x3), none, none]) ⟨rfl, rfl, rfl, rfl, trivial⟩ h
def rwp_X12_tell_45 (E : ZE) (l : Launch) (d b : Nat) (A G : ZG) (Q : Option Value → ZS9 → Prop) (k : Nat) (x1 : Int32) (x2 : Int32) (x3 : Int32) (s0 : Int32) (S : ZS9) : Prop :=
  rcI E l mX12_throwsIf d [.int s0, .int 2] S k (fun y3 S1 k2 =>
  ((y3 = 0 →
    ((x3 = 0 →
      zW E l mX12_tell d b A (rQ G Q) k2 73 [some (.ref (zp 416 0)), some (.int x1), some (.int x2), some (.int x3), none, none] [.int 1, .int ((80 * x1) + x2), .ref (zp 1135 0)] (zput G S1)) ∧
    (¬ (x3 = 0) →
      zW E l mX12_tell d b A (rQ G Q) k2 73 [some (.ref (zp 416 0)), some (.int x1), some (.int x2), some (.int x3), none, none] [.int 2, .int ((80 * x1) + x2), .ref (zp 1135 0)] (zput G S1)))) ∧
  (¬ (y3 = 0) →
    Q (some (.int 0)) S1)))
theorem rwpt_X12_tell_45 {E : ZE} {l : Launch} {d b : Nat} {A G : ZG} {Q : Option Value → ZS9 → Prop} {k : Nat} {x1 : Int32} {x2 : Int32} {x3 : Int32} {s0 : Int32} {S : ZS9} (hK : RK G) (h : rwp_X12_tell_45 E l d b A G Q k x1 x2 x3 s0 S) : zW E l mX12_tell d b A (rQ G Q) k 45 [some (.ref (zp 416 0)), some (.int x1), some (.int x2), some (.int x3), none, none] [.int s0, .ref (zp 416 0)] (zput G S) := by
  unfold rwp_X12_tell_45 at h
  refine z_iconst (x := 2) (pc' := 46) dX12_tell_45 (by decide) rfl ?_
  refine r_callI (Y := mX12_throwsIf) (n := 2) (as := [.int s0, .int 2]) (st := []) (pc' := 49) h hK dX12_tell_46 kX12_321 vX12_throwsIf rfl rfl rfl (Nat.le_of_ble_eq_true rfl) (fun y3 S1 k2 h => ?_)
  refine z_if_eq (pt := 54) (pc' := 52) dX12_tell_49 (by decide) rfl (fun hc => ?_) (fun hc => ?_)
  · have h := h.1 hc
    refine z_aload_n (pc' := 55) dX12_tell_54 rfl rfl ?_
    refine r_getA (kf := 35) (pc' := 58) hK rt_35 dX12_tell_55 kX12_70 rfl (by decide) (by decide) rfl ?_
    refine z_bipush (x := 80) (pc' := 60) dX12_tell_58 (by decide) rfl ?_
    refine z_iload_n (pc' := 61) dX12_tell_60 rfl rfl ?_
    refine z_imul (pc' := 62) dX12_tell_61 rfl rfl ?_
    refine z_iload_n (pc' := 63) dX12_tell_62 rfl rfl ?_
    refine z_iadd (pc' := 64) dX12_tell_63 rfl rfl ?_
    refine z_iload_n (pc' := 65) dX12_tell_64 rfl rfl ?_
    refine z_if_eq (pt := 72) (pc' := 68) dX12_tell_65 (by decide) rfl (fun hc => ?_) (fun hc => ?_)
    · have h := h.1 hc
      refine z_iconst (x := 1) (pc' := 73) dX12_tell_72 (by decide) rfl ?_
      exact z_dr (ls' := [some (.ref (zp 416 0)), some (.int x1), some (.int x2), some (.int x3), none, none]) ⟨rfl, rfl, rfl, rfl, trivial⟩ h
    · have h := h.2 hc
      refine z_iconst (x := 2) (pc' := 69) dX12_tell_68 (by decide) rfl ?_
      refine z_goto (pc' := 73) dX12_tell_69 (by decide) ?_
      exact z_dr (ls' := [some (.ref (zp 416 0)), some (.int x1), some (.int x2), some (.int x3), none, none]) ⟨rfl, rfl, rfl, rfl, trivial⟩ h
  · have h := h.2 hc
    refine z_iconst (x := 0) (pc' := 53) dX12_tell_52 (by decide) rfl ?_
    exact z_iret dX12_tell_53 rfl ⟨_, _, rfl, rfl, h⟩
def rwp_X12_tell_73 (E : ZE) (l : Launch) (d b : Nat) (A G : ZG) (Q : Option Value → ZS9 → Prop) (k : Nat) (x1 : Int32) (x2 : Int32) (x3 : Int32) (s0 : Int32) (s1 : Int32) (S : ZS9) : Prop :=
  vp_in s1 6400 ∧
  ∀ S1, S1 = zup S 1135 s1.toNatClampNeg s0 →
  ((x3 = 0 →
    vp_in ((80 * x2) + x1) 6400 ∧
    ∀ S2, S2 = zup S1 1135 ((80 * x2) + x1).toNatClampNeg 1 →
    zW E l mX12_tell d b A (rQ G Q) k 100 [some (.ref (zp 416 0)), none, none, none, some (.int 0), some (.int 0)] [] (zput G S2)) ∧
  (¬ (x3 = 0) →
    vp_in ((80 * x2) + x1) 6400 ∧
    ∀ S3, S3 = zup S1 1135 ((80 * x2) + x1).toNatClampNeg 2 →
    zW E l mX12_tell d b A (rQ G Q) k 100 [some (.ref (zp 416 0)), none, none, none, some (.int 0), some (.int 0)] [] (zput G S3)))
theorem rwpt_X12_tell_73 {E : ZE} {l : Launch} {d b : Nat} {A G : ZG} {Q : Option Value → ZS9 → Prop} {k : Nat} {x1 : Int32} {x2 : Int32} {x3 : Int32} {s0 : Int32} {s1 : Int32} {S : ZS9} (hK : RK G) (h : rwp_X12_tell_73 E l d b A G Q k x1 x2 x3 s0 s1 S) : zW E l mX12_tell d b A (rQ G Q) k 73 [some (.ref (zp 416 0)), some (.int x1), some (.int x2), some (.int x3), none, none] [.int s0, .int s1, .ref (zp 1135 0)] (zput G S) := by
  unfold rwp_X12_tell_73 at h
  obtain ⟨h1, h⟩ := h
  obtain ⟨S1, hG⟩ : ∃ z, z = zup S 1135 s1.toNatClampNeg s0 := ⟨_, rfl⟩
  have h := h _ hG
  refine r_iast (pc' := 74) hK rt_35 rfl dX12_tell_73 rfl h1  ?_
  refine r_st hG ?_
  refine z_aload_n (pc' := 75) dX12_tell_74 rfl rfl ?_
  refine r_getA (kf := 35) (pc' := 78) hK rt_35 dX12_tell_75 kX12_70 rfl (by decide) (by decide) rfl ?_
  refine z_bipush (x := 80) (pc' := 80) dX12_tell_78 (by decide) rfl ?_
  refine z_iload_n (pc' := 81) dX12_tell_80 rfl rfl ?_
  refine z_imul (pc' := 82) dX12_tell_81 rfl rfl ?_
  refine z_iload_n (pc' := 83) dX12_tell_82 rfl rfl ?_
  refine z_iadd (pc' := 84) dX12_tell_83 rfl rfl ?_
  refine z_iload_n (pc' := 85) dX12_tell_84 rfl rfl ?_
  refine z_if_eq (pt := 92) (pc' := 88) dX12_tell_85 (by decide) rfl (fun hc => ?_) (fun hc => ?_)
  · have h := h.1 hc
    refine z_iconst (x := 1) (pc' := 93) dX12_tell_92 (by decide) rfl ?_
    obtain ⟨h1, h⟩ := h
    obtain ⟨S2, hG⟩ : ∃ z, z = zup S1 1135 ((80 * x2) + x1).toNatClampNeg 1 := ⟨_, rfl⟩
    have h := h _ hG
    refine r_iast (pc' := 94) hK rt_35 rfl dX12_tell_93 rfl h1  ?_
    refine r_st hG ?_
    refine z_iconst (x := 0) (pc' := 95) dX12_tell_94 (by decide) rfl ?_
    refine z_istore (pc' := 97) dX12_tell_95 (by decide) rfl ?_
    refine z_iconst (x := 0) (pc' := 98) dX12_tell_97 (by decide) rfl ?_
    refine z_istore (pc' := 100) dX12_tell_98 (by decide) rfl ?_
    exact z_dr (ls' := [some (.ref (zp 416 0)), none, none, none, some (.int 0), some (.int 0)]) ⟨rfl, rfl, rfl, trivial⟩ h
  · have h := h.2 hc
    refine z_iconst (x := 2) (pc' := 89) dX12_tell_88 (by decide) rfl ?_
    refine z_goto (pc' := 93) dX12_tell_89 (by decide) ?_
    obtain ⟨h1, h⟩ := h
    obtain ⟨S3, hG⟩ : ∃ z, z = zup S1 1135 ((80 * x2) + x1).toNatClampNeg 2 := ⟨_, rfl⟩
    have h := h _ hG
    refine r_iast (pc' := 94) hK rt_35 rfl dX12_tell_93 rfl h1  ?_
    refine r_st hG ?_
    refine z_iconst (x := 0) (pc' := 95) dX12_tell_94 (by decide) rfl ?_
    refine z_istore (pc' := 97) dX12_tell_95 (by decide) rfl ?_
    refine z_iconst (x := 0) (pc' := 98) dX12_tell_97 (by decide) rfl ?_
    refine z_istore (pc' := 100) dX12_tell_98 (by decide) rfl ?_
    exact z_dr (ls' := [some (.ref (zp 416 0)), none, none, none, some (.int 0), some (.int 0)]) ⟨rfl, rfl, rfl, trivial⟩ h
def rwp_X12_tell_100 (E : ZE) (l : Launch) (d b : Nat) (A G : ZG) (Q : Option Value → ZS9 → Prop) (k : Nat) (x4 : Int32) (x5 : Int32) (S : ZS9) : Prop :=
  (((S 416 66) ≤ x5 →
    Q (some (.int x4)) S) ∧
  (¬ ((S 416 66) ≤ x5) →
    rcI E l mX12_now d [.int x5, .int 0] S k (fun y3 S1 k2 =>
    ((y3 = 3 →
      rcV E l mX12_checks d [.int x5] S1 k2 (fun S4 k5 =>
      rcI E l mX12_now d [.int x5, .int 0] S4 k5 (fun y8 S6 k7 =>
      ((y8 = 3 →
        zW E l mX12_tell d b A (rQ G Q) k7 100 [some (.ref (zp 416 0)), none, none, none, some (.int (x4 + 0)), some (.int (x5 + 1))] [] (zput G S6)) ∧
      (¬ (y8 = 3) →
        zW E l mX12_tell d b A (rQ G Q) k7 100 [some (.ref (zp 416 0)), none, none, none, some (.int (x4 + 1)), some (.int (x5 + 1))] [] (zput G S6)))))) ∧
    (¬ (y3 = 3) →
      zW E l mX12_tell d b A (rQ G Q) k2 100 [some (.ref (zp 416 0)), none, none, none, some (.int x4), some (.int (x5 + 1))] [] (zput G S1))))))
theorem rwpt_X12_tell_100 {E : ZE} {l : Launch} {d b : Nat} {A G : ZG} {Q : Option Value → ZS9 → Prop} {k : Nat} {x4 : Int32} {x5 : Int32} {S : ZS9} (hK : RK G) (h : rwp_X12_tell_100 E l d b A G Q k x4 x5 S) : zW E l mX12_tell d b A (rQ G Q) k 100 [some (.ref (zp 416 0)), none, none, none, some (.int x4), some (.int x5)] [] (zput G S) := by
  unfold rwp_X12_tell_100 at h
  refine z_iload (pc' := 102) dX12_tell_100 rfl rfl ?_
  refine z_aload_n (pc' := 103) dX12_tell_102 rfl rfl ?_
  refine r_getI (kf := 66) (pc' := 106) hK dX12_tell_103 kX12_412 rfl (by decide) (by decide) rfl ?_
  refine z_icmp_ge (pt := 156) (pc' := 109) dX12_tell_106 (by decide) rfl (fun hc => ?_) (fun hc => ?_)
  · have h := h.1 hc
    refine z_iload (pc' := 158) dX12_tell_156 rfl rfl ?_
    exact z_iret dX12_tell_158 rfl ⟨_, _, rfl, rfl, h⟩
  · have h := h.2 hc
    refine z_aload_n (pc' := 110) dX12_tell_109 rfl rfl ?_
    refine z_iload (pc' := 112) dX12_tell_110 rfl rfl ?_
    refine z_iconst (x := 0) (pc' := 113) dX12_tell_112 (by decide) rfl ?_
    refine r_callI (Y := mX12_now) (n := 2) (as := [.int x5, .int 0]) (st := []) (pc' := 116) h hK dX12_tell_113 kX12_434 vX12_now rfl rfl rfl (Nat.le_of_ble_eq_true rfl) (fun y3 S1 k2 h => ?_)
    refine z_iconst (x := 3) (pc' := 117) dX12_tell_116 (by decide) rfl ?_
    refine z_icmp_eq (pt := 123) (pc' := 120) dX12_tell_117 (by decide) rfl (fun hc => ?_) (fun hc => ?_)
    · have h := h.1 hc
      refine z_aload_n (pc' := 124) dX12_tell_123 rfl rfl ?_
      refine z_iload (pc' := 126) dX12_tell_124 rfl rfl ?_
      refine r_callV (Y := mX12_checks) (n := 1) (as := [.int x5]) (st := []) (pc' := 129) h hK dX12_tell_126 kX12_440 vX12_checks rfl rfl rfl (Nat.le_of_ble_eq_true rfl) (fun S4 k5 h => ?_)
      refine z_iload (pc' := 131) dX12_tell_129 rfl rfl ?_
      refine z_aload_n (pc' := 132) dX12_tell_131 rfl rfl ?_
      refine z_iload (pc' := 134) dX12_tell_132 rfl rfl ?_
      refine z_iconst (x := 0) (pc' := 135) dX12_tell_134 (by decide) rfl ?_
      refine r_callI (Y := mX12_now) (n := 2) (as := [.int x5, .int 0]) (st := [.int x4]) (pc' := 138) h hK dX12_tell_135 kX12_434 vX12_now rfl rfl rfl (Nat.le_of_ble_eq_true rfl) (fun y8 S6 k7 h => ?_)
      refine z_iconst (x := 3) (pc' := 139) dX12_tell_138 (by decide) rfl ?_
      refine z_icmp_eq (pt := 146) (pc' := 142) dX12_tell_139 (by decide) rfl (fun hc => ?_) (fun hc => ?_)
      · have h := h.1 hc
        refine z_iconst (x := 0) (pc' := 147) dX12_tell_146 (by decide) rfl ?_
        refine z_iadd (pc' := 148) dX12_tell_147 rfl rfl ?_
        refine z_istore (pc' := 150) dX12_tell_148 (by decide) rfl ?_
        refine z_iinc (y := x5 + 1) (pc' := 153) dX12_tell_150 rfl (zinc_1 _) (by decide) rfl ?_
        refine z_goto (pc' := 100) dX12_tell_153 (by decide) ?_
        exact z_dr (ls' := [some (.ref (zp 416 0)), none, none, none, some (.int (x4 + 0)), some (.int (x5 + 1))]) ⟨rfl, rfl, rfl, trivial⟩ h
      · have h := h.2 hc
        refine z_iconst (x := 1) (pc' := 143) dX12_tell_142 (by decide) rfl ?_
        refine z_goto (pc' := 147) dX12_tell_143 (by decide) ?_
        refine z_iadd (pc' := 148) dX12_tell_147 rfl rfl ?_
        refine z_istore (pc' := 150) dX12_tell_148 (by decide) rfl ?_
        refine z_iinc (y := x5 + 1) (pc' := 153) dX12_tell_150 rfl (zinc_1 _) (by decide) rfl ?_
        refine z_goto (pc' := 100) dX12_tell_153 (by decide) ?_
        exact z_dr (ls' := [some (.ref (zp 416 0)), none, none, none, some (.int (x4 + 1)), some (.int (x5 + 1))]) ⟨rfl, rfl, rfl, trivial⟩ h
    · have h := h.2 hc
      refine z_goto (pc' := 150) dX12_tell_120 (by decide) ?_
      refine z_iinc (y := x5 + 1) (pc' := 153) dX12_tell_150 rfl (zinc_1 _) (by decide) rfl ?_
      refine z_goto (pc' := 100) dX12_tell_153 (by decide) ?_
      exact z_dr (ls' := [some (.ref (zp 416 0)), none, none, none, some (.int x4), some (.int (x5 + 1))]) ⟨rfl, rfl, rfl, trivial⟩ h
def rwp_X12_thrown_0 (E : ZE) (l : Launch) (d b : Nat) (A G : ZG) (Q : Option Value → ZS9 → Prop) (k : Nat)  (S : ZS9) : Prop :=
  Q (some (.int (S 416 0))) S
theorem rwpt_X12_thrown_0 {E : ZE} {l : Launch} {d b : Nat} {A G : ZG} {Q : Option Value → ZS9 → Prop} {k : Nat}  {S : ZS9} (hK : RK G) (h : rwp_X12_thrown_0 E l d b A G Q k  S) : zW E l mX12_thrown d b A (rQ G Q) k 0 [some (.ref (zp 416 0))] [] (zput G S) := by
  unfold rwp_X12_thrown_0 at h
  refine z_aload_n (pc' := 1) dX12_thrown_0 rfl rfl ?_
  refine r_getI (kf := 0) (pc' := 4) hK dX12_thrown_1 kX12_178 rfl (by decide) (by decide) rfl ?_
  exact z_iret dX12_thrown_4 rfl ⟨_, _, rfl, rfl, h⟩
def rwp_X12_throwsIf_0 (E : ZE) (l : Launch) (d b : Nat) (A G : ZG) (Q : Option Value → ZS9 → Prop) (k : Nat) (x1 : Int32) (x2 : Int32) (S : ZS9) : Prop :=
  ((x1 = 0 →
    narrow .boolean (.int x1) = .int x1 ∧ Q (some (.int x1)) S) ∧
  (¬ (x1 = 0) →
    ∀ S1, S1 = zup S 416 0 x2 →
    narrow .boolean (.int x1) = .int x1 ∧ Q (some (.int x1)) S1))
theorem rwpt_X12_throwsIf_0 {E : ZE} {l : Launch} {d b : Nat} {A G : ZG} {Q : Option Value → ZS9 → Prop} {k : Nat} {x1 : Int32} {x2 : Int32} {S : ZS9} (hK : RK G) (h : rwp_X12_throwsIf_0 E l d b A G Q k x1 x2 S) : zW E l mX12_throwsIf d b A (rQ G Q) k 0 [some (.ref (zp 416 0)), some (.int x1), some (.int x2)] [] (zput G S) := by
  unfold rwp_X12_throwsIf_0 at h
  refine z_iload_n (pc' := 1) dX12_throwsIf_0 rfl rfl ?_
  refine z_if_eq (pt := 9) (pc' := 4) dX12_throwsIf_1 (by decide) rfl (fun hc => ?_) (fun hc => ?_)
  · have h := h.1 hc
    refine z_iload_n (pc' := 10) dX12_throwsIf_9 rfl rfl ?_
    exact z_zret (ty := .boolean) dX12_throwsIf_10 rfl h.1 ⟨_, _, rfl, rfl, h.2⟩
  · have h := h.2 hc
    refine z_aload_n (pc' := 5) dX12_throwsIf_4 rfl rfl ?_
    refine z_iload_n (pc' := 6) dX12_throwsIf_5 rfl rfl ?_
    obtain ⟨S1, hG⟩ : ∃ z, z = zup S 416 0 x2 := ⟨_, rfl⟩
    have h := h _ hG
    refine r_putI (kf := 0) (pc' := 9) hK dX12_throwsIf_6 kX12_178 rfl (by decide) (by decide) rfl rfl (zok_int _) ?_
    refine r_st hG ?_
    refine z_iload_n (pc' := 10) dX12_throwsIf_9 rfl rfl ?_
    exact z_zret (ty := .boolean) dX12_throwsIf_10 rfl h.1 ⟨_, _, rfl, rfl, h.2⟩
def rwp_X12_units_0 (E : ZE) (l : Launch) (d b : Nat) (A G : ZG) (Q : Option Value → ZS9 → Prop) (k : Nat) (x1 : Int32) (x2 : Int32) (S : ZS9) : Prop :=
  ∀ S1, S1 = zup S 416 0 0 →
  scI E l mX12_noDesk d [.int x1] (fun y2 =>
  rcI E l mX12_throwsIf d [.int y2, .int 1] S1 k (fun y5 S3 k4 =>
  ((y5 = 0 →
    rcI E l mX12_unitsOf d [.int x1, .int x2] S3 k4 (fun y8 S6 k7 =>
    Q (some (.int y8)) S6)) ∧
  (¬ (y5 = 0) →
    Q (some (.int 0)) S3))))
theorem rwpt_X12_units_0 {E : ZE} {l : Launch} {d b : Nat} {A G : ZG} {Q : Option Value → ZS9 → Prop} {k : Nat} {x1 : Int32} {x2 : Int32} {S : ZS9} (hK : RK G) (h : rwp_X12_units_0 E l d b A G Q k x1 x2 S) : zW E l mX12_units d b A (rQ G Q) k 0 [some (.ref (zp 416 0)), some (.int x1), some (.int x2)] [] (zput G S) := by
  unfold rwp_X12_units_0 at h
  refine z_aload_n (pc' := 1) dX12_units_0 rfl rfl ?_
  refine z_iconst (x := 0) (pc' := 2) dX12_units_1 (by decide) rfl ?_
  obtain ⟨S1, hG⟩ : ∃ z, z = zup S 416 0 0 := ⟨_, rfl⟩
  have h := h _ hG
  refine r_putI (kf := 0) (pc' := 5) hK dX12_units_2 kX12_178 rfl (by decide) (by decide) rfl rfl (zok_int _) ?_
  refine r_st hG ?_
  refine z_aload_n (pc' := 6) dX12_units_5 rfl rfl ?_
  refine z_iload_n (pc' := 7) dX12_units_6 rfl rfl ?_
  refine r_callSI (Y := mX12_noDesk) (n := 1) (as := [.int x1]) (st := [.ref (zp 416 0)]) (pc' := 10) h dX12_units_7 kX12_394 sX12_noDesk rfl rfl (Nat.le_of_ble_eq_true rfl) (fun y2 h => ?_)
  refine z_iconst (x := 1) (pc' := 11) dX12_units_10 (by decide) rfl ?_
  refine r_callI (Y := mX12_throwsIf) (n := 2) (as := [.int y2, .int 1]) (st := []) (pc' := 14) h hK dX12_units_11 kX12_321 vX12_throwsIf rfl rfl rfl (Nat.le_of_ble_eq_true rfl) (fun y5 S3 k4 h => ?_)
  refine z_if_eq (pt := 21) (pc' := 17) dX12_units_14 (by decide) rfl (fun hc => ?_) (fun hc => ?_)
  · have h := h.1 hc
    refine z_aload_n (pc' := 22) dX12_units_21 rfl rfl ?_
    refine z_iload_n (pc' := 23) dX12_units_22 rfl rfl ?_
    refine z_iload_n (pc' := 24) dX12_units_23 rfl rfl ?_
    refine r_callI (Y := mX12_unitsOf) (n := 2) (as := [.int x1, .int x2]) (st := []) (pc' := 27) h hK dX12_units_24 kX12_400 vX12_unitsOf rfl rfl rfl (Nat.le_of_ble_eq_true rfl) (fun y8 S6 k7 h => ?_)
    exact z_iret dX12_units_27 rfl ⟨_, _, rfl, rfl, h⟩
  · have h := h.2 hc
    refine z_iconst (x := 0) (pc' := 18) dX12_units_17 (by decide) rfl ?_
    refine z_goto (pc' := 27) dX12_units_18 (by decide) ?_
    exact z_iret dX12_units_27 rfl ⟨_, _, rfl, rfl, h⟩
def rwp_X12_unitsOf_0 (E : ZE) (l : Launch) (d b : Nat) (A G : ZG) (Q : Option Value → ZS9 → Prop) (k : Nat) (x1 : Int32) (x2 : Int32) (S : ZS9) : Prop :=
  vp_in x1 4 ∧
  zW E l mX12_unitsOf d b A (rQ G Q) k 13 [some (.ref (zp 416 0)), some (.int x1), some (.int x2), some (.int (8 * (S 1146 x1.toNatClampNeg))), some (.int 0)] [] (zput G S)
theorem rwpt_X12_unitsOf_0 {E : ZE} {l : Launch} {d b : Nat} {A G : ZG} {Q : Option Value → ZS9 → Prop} {k : Nat} {x1 : Int32} {x2 : Int32} {S : ZS9} (hK : RK G) (h : rwp_X12_unitsOf_0 E l d b A G Q k x1 x2 S) : zW E l mX12_unitsOf d b A (rQ G Q) k 0 [some (.ref (zp 416 0)), some (.int x1), some (.int x2), none, none] [] (zput G S) := by
  unfold rwp_X12_unitsOf_0 at h
  refine z_bipush (x := 8) (pc' := 2) dX12_unitsOf_0 (by decide) rfl ?_
  refine z_aload_n (pc' := 3) dX12_unitsOf_2 rfl rfl ?_
  refine r_getA (kf := 46) (pc' := 6) hK rt_46 dX12_unitsOf_3 kX12_94 rfl (by decide) (by decide) rfl ?_
  refine z_iload_n (pc' := 7) dX12_unitsOf_6 rfl rfl ?_
  obtain ⟨h1, h⟩ := h
  refine r_iald (pc' := 8) hK rt_46 rfl dX12_unitsOf_7 rfl h1 ?_
  refine z_imul (pc' := 9) dX12_unitsOf_8 rfl rfl ?_
  refine z_istore_n (pc' := 10) dX12_unitsOf_9 (by decide) rfl ?_
  refine z_iconst (x := 0) (pc' := 11) dX12_unitsOf_10 (by decide) rfl ?_
  refine z_istore (pc' := 13) dX12_unitsOf_11 (by decide) rfl ?_
  exact z_dr (ls' := [some (.ref (zp 416 0)), some (.int x1), some (.int x2), some (.int (8 * (S 1146 x1.toNatClampNeg))), some (.int 0)]) ⟨rfl, rfl, rfl, rfl, rfl, trivial⟩ h
def rwp_X12_unitsOf_13 (E : ZE) (l : Launch) (d b : Nat) (A G : ZG) (Q : Option Value → ZS9 → Prop) (k : Nat) (x1 : Int32) (x2 : Int32) (x3 : Int32) (x4 : Int32) (S : ZS9) : Prop :=
  (((S 416 52) ≤ x4 →
    scI E l mJ9_max_7cf53 d [.int 0, .int x3] (fun y1 =>
    Q (some (.int y1)) S)) ∧
  (¬ ((S 416 52) ≤ x4) →
    vp_in x4 20 ∧
    ((¬ (S 1147 x4.toNatClampNeg) = x1 →
      zW E l mX12_unitsOf d b A (rQ G Q) k 13 [some (.ref (zp 416 0)), some (.int x1), some (.int x2), some (.int x3), some (.int (x4 + 1))] [] (zput G S)) ∧
    (¬ (¬ (S 1147 x4.toNatClampNeg) = x1) →
      vp_in x4 20 ∧
      vp_in x4 20 ∧
      scI E l mX12_in d [.int x2, .int (S 1149 x4.toNatClampNeg), .int (S 1150 x4.toNatClampNeg)] (fun y2 =>
      ((y2 = 0 →
        zW E l mX12_unitsOf d b A (rQ G Q) k 13 [some (.ref (zp 416 0)), some (.int x1), some (.int x2), some (.int x3), some (.int (x4 + 1))] [] (zput G S)) ∧
      (¬ (y2 = 0) →
        vp_in x4 20 ∧
        vp_in x4 20 ∧
        (((S 1151 x4.toNatClampNeg) ≤ (x2 - (S 1149 x4.toNatClampNeg)) →
          vp_in x4 20 ∧
          zW E l mX12_unitsOf d b A (rQ G Q) k 13 [some (.ref (zp 416 0)), some (.int x1), some (.int x2), some (.int (x3 + (8 * (S 1148 x4.toNatClampNeg)))), some (.int (x4 + 1))] [] (zput G S)) ∧
        (¬ ((S 1151 x4.toNatClampNeg) ≤ (x2 - (S 1149 x4.toNatClampNeg))) →
          vp_in x4 20 ∧
          zW E l mX12_unitsOf d b A (rQ G Q) k 13 [some (.ref (zp 416 0)), some (.int x1), some (.int x2), some (.int (x3 + ((-2) * (S 1148 x4.toNatClampNeg)))), some (.int (x4 + 1))] [] (zput G S))))))))))
theorem rwpt_X12_unitsOf_13 {E : ZE} {l : Launch} {d b : Nat} {A G : ZG} {Q : Option Value → ZS9 → Prop} {k : Nat} {x1 : Int32} {x2 : Int32} {x3 : Int32} {x4 : Int32} {S : ZS9} (hK : RK G) (h : rwp_X12_unitsOf_13 E l d b A G Q k x1 x2 x3 x4 S) : zW E l mX12_unitsOf d b A (rQ G Q) k 13 [some (.ref (zp 416 0)), some (.int x1), some (.int x2), some (.int x3), some (.int x4)] [] (zput G S) := by
  unfold rwp_X12_unitsOf_13 at h
  refine z_iload (pc' := 15) dX12_unitsOf_13 rfl rfl ?_
  refine z_aload_n (pc' := 16) dX12_unitsOf_15 rfl rfl ?_
  refine r_getI (kf := 52) (pc' := 19) hK dX12_unitsOf_16 kX12_397 rfl (by decide) (by decide) rfl ?_
  refine z_icmp_ge (pt := 105) (pc' := 22) dX12_unitsOf_19 (by decide) rfl (fun hc => ?_) (fun hc => ?_)
  · have h := h.1 hc
    refine z_iconst (x := 0) (pc' := 106) dX12_unitsOf_105 (by decide) rfl ?_
    refine z_iload_n (pc' := 107) dX12_unitsOf_106 rfl rfl ?_
    refine r_callSI (Y := mJ9_max_7cf53) (n := 2) (as := [.int 0, .int x3]) (st := []) (pc' := 110) h dX12_unitsOf_107 kX12_366 sJ9_max_7cf53 rfl rfl (Nat.le_of_ble_eq_true rfl) (fun y1 h => ?_)
    exact z_iret dX12_unitsOf_110 rfl ⟨_, _, rfl, rfl, h⟩
  · have h := h.2 hc
    refine z_aload_n (pc' := 23) dX12_unitsOf_22 rfl rfl ?_
    refine r_getA (kf := 47) (pc' := 26) hK rt_47 dX12_unitsOf_23 kX12_97 rfl (by decide) (by decide) rfl ?_
    refine z_iload (pc' := 28) dX12_unitsOf_26 rfl rfl ?_
    obtain ⟨h1, h⟩ := h
    refine r_iald (pc' := 29) hK rt_47 rfl dX12_unitsOf_28 rfl h1 ?_
    refine z_iload_n (pc' := 30) dX12_unitsOf_29 rfl rfl ?_
    refine z_icmp_ne (pt := 99) (pc' := 33) dX12_unitsOf_30 (by decide) rfl (fun hc => ?_) (fun hc => ?_)
    · have h := h.1 hc
      refine z_iinc (y := x4 + 1) (pc' := 102) dX12_unitsOf_99 rfl (zinc_1 _) (by decide) rfl ?_
      refine z_goto (pc' := 13) dX12_unitsOf_102 (by decide) ?_
      exact z_dr (ls' := [some (.ref (zp 416 0)), some (.int x1), some (.int x2), some (.int x3), some (.int (x4 + 1))]) ⟨rfl, rfl, rfl, rfl, rfl, trivial⟩ h
    · have h := h.2 hc
      refine z_iload_n (pc' := 34) dX12_unitsOf_33 rfl rfl ?_
      refine z_aload_n (pc' := 35) dX12_unitsOf_34 rfl rfl ?_
      refine r_getA (kf := 49) (pc' := 38) hK rt_49 dX12_unitsOf_35 kX12_103 rfl (by decide) (by decide) rfl ?_
      refine z_iload (pc' := 40) dX12_unitsOf_38 rfl rfl ?_
      obtain ⟨h1, h⟩ := h
      refine r_iald (pc' := 41) hK rt_49 rfl dX12_unitsOf_40 rfl h1 ?_
      refine z_aload_n (pc' := 42) dX12_unitsOf_41 rfl rfl ?_
      refine r_getA (kf := 50) (pc' := 45) hK rt_50 dX12_unitsOf_42 kX12_106 rfl (by decide) (by decide) rfl ?_
      refine z_iload (pc' := 47) dX12_unitsOf_45 rfl rfl ?_
      obtain ⟨h1, h⟩ := h
      refine r_iald (pc' := 48) hK rt_50 rfl dX12_unitsOf_47 rfl h1 ?_
      refine r_callSI (Y := mX12_in) (n := 3) (as := [.int x2, .int (S 1149 x4.toNatClampNeg), .int (S 1150 x4.toNatClampNeg)]) (st := []) (pc' := 51) h dX12_unitsOf_48 kX12_317 sX12_in rfl rfl (Nat.le_of_ble_eq_true rfl) (fun y2 h => ?_)
      refine z_if_eq (pt := 99) (pc' := 54) dX12_unitsOf_51 (by decide) rfl (fun hc => ?_) (fun hc => ?_)
      · have h := h.1 hc
        refine z_iinc (y := x4 + 1) (pc' := 102) dX12_unitsOf_99 rfl (zinc_1 _) (by decide) rfl ?_
        refine z_goto (pc' := 13) dX12_unitsOf_102 (by decide) ?_
        exact z_dr (ls' := [some (.ref (zp 416 0)), some (.int x1), some (.int x2), some (.int x3), some (.int (x4 + 1))]) ⟨rfl, rfl, rfl, rfl, rfl, trivial⟩ h
      · have h := h.2 hc
        refine z_iload_n (pc' := 55) dX12_unitsOf_54 rfl rfl ?_
        refine z_iload_n (pc' := 56) dX12_unitsOf_55 rfl rfl ?_
        refine z_aload_n (pc' := 57) dX12_unitsOf_56 rfl rfl ?_
        refine r_getA (kf := 49) (pc' := 60) hK rt_49 dX12_unitsOf_57 kX12_103 rfl (by decide) (by decide) rfl ?_
        refine z_iload (pc' := 62) dX12_unitsOf_60 rfl rfl ?_
        obtain ⟨h1, h⟩ := h
        refine r_iald (pc' := 63) hK rt_49 rfl dX12_unitsOf_62 rfl h1 ?_
        refine z_isub (pc' := 64) dX12_unitsOf_63 rfl rfl ?_
        refine z_aload_n (pc' := 65) dX12_unitsOf_64 rfl rfl ?_
        refine r_getA (kf := 51) (pc' := 68) hK rt_51 dX12_unitsOf_65 kX12_109 rfl (by decide) (by decide) rfl ?_
        refine z_iload (pc' := 70) dX12_unitsOf_68 rfl rfl ?_
        obtain ⟨h1, h⟩ := h
        refine r_iald (pc' := 71) hK rt_51 rfl dX12_unitsOf_70 rfl h1 ?_
        refine z_icmp_ge (pt := 87) (pc' := 74) dX12_unitsOf_71 (by decide) rfl (fun hc => ?_) (fun hc => ?_)
        · have h := h.1 hc
          refine z_bipush (x := 8) (pc' := 89) dX12_unitsOf_87 (by decide) rfl ?_
          refine z_aload_n (pc' := 90) dX12_unitsOf_89 rfl rfl ?_
          refine r_getA (kf := 48) (pc' := 93) hK rt_48 dX12_unitsOf_90 kX12_100 rfl (by decide) (by decide) rfl ?_
          refine z_iload (pc' := 95) dX12_unitsOf_93 rfl rfl ?_
          obtain ⟨h1, h⟩ := h
          refine r_iald (pc' := 96) hK rt_48 rfl dX12_unitsOf_95 rfl h1 ?_
          refine z_imul (pc' := 97) dX12_unitsOf_96 rfl rfl ?_
          refine z_iadd (pc' := 98) dX12_unitsOf_97 rfl rfl ?_
          refine z_istore_n (pc' := 99) dX12_unitsOf_98 (by decide) rfl ?_
          refine z_iinc (y := x4 + 1) (pc' := 102) dX12_unitsOf_99 rfl (zinc_1 _) (by decide) rfl ?_
          refine z_goto (pc' := 13) dX12_unitsOf_102 (by decide) ?_
          exact z_dr (ls' := [some (.ref (zp 416 0)), some (.int x1), some (.int x2), some (.int (x3 + (8 * (S 1148 x4.toNatClampNeg)))), some (.int (x4 + 1))]) ⟨rfl, rfl, rfl, rfl, rfl, trivial⟩ h
        · have h := h.2 hc
          refine z_bipush (x := (-2)) (pc' := 76) dX12_unitsOf_74 (by decide) rfl ?_
          refine z_aload_n (pc' := 77) dX12_unitsOf_76 rfl rfl ?_
          refine r_getA (kf := 48) (pc' := 80) hK rt_48 dX12_unitsOf_77 kX12_100 rfl (by decide) (by decide) rfl ?_
          refine z_iload (pc' := 82) dX12_unitsOf_80 rfl rfl ?_
          obtain ⟨h1, h⟩ := h
          refine r_iald (pc' := 83) hK rt_48 rfl dX12_unitsOf_82 rfl h1 ?_
          refine z_imul (pc' := 84) dX12_unitsOf_83 rfl rfl ?_
          refine z_goto (pc' := 97) dX12_unitsOf_84 (by decide) ?_
          refine z_iadd (pc' := 98) dX12_unitsOf_97 rfl rfl ?_
          refine z_istore_n (pc' := 99) dX12_unitsOf_98 (by decide) rfl ?_
          refine z_iinc (y := x4 + 1) (pc' := 102) dX12_unitsOf_99 rfl (zinc_1 _) (by decide) rfl ?_
          refine z_goto (pc' := 13) dX12_unitsOf_102 (by decide) ?_
          exact z_dr (ls' := [some (.ref (zp 416 0)), some (.int x1), some (.int x2), some (.int (x3 + ((-2) * (S 1148 x4.toNatClampNeg)))), some (.int (x4 + 1))]) ⟨rfl, rfl, rfl, rfl, rfl, trivial⟩ h
def rwp_X12_uses_0 (E : ZE) (l : Launch) (d b : Nat) (A G : ZG) (Q : Option Value → ZS9 → Prop) (k : Nat)  (S : ZS9) : Prop :=
  ∀ S1, S1 = zup S 416 0 0 →
  ∀ S2, S2 = zup S1 416 5 (S1 416 3) →
  ∀ S3, S3 = zup S2 416 3 0 →
  ∀ S4, S4 = zup S3 416 4 0 →
  Q none S4
theorem rwpt_X12_uses_0 {E : ZE} {l : Launch} {d b : Nat} {A G : ZG} {Q : Option Value → ZS9 → Prop} {k : Nat}  {S : ZS9} (hK : RK G) (h : rwp_X12_uses_0 E l d b A G Q k  S) : zW E l mX12_uses d b A (rQ G Q) k 0 [some (.ref (zp 416 0))] [] (zput G S) := by
  unfold rwp_X12_uses_0 at h
  refine z_aload_n (pc' := 1) dX12_uses_0 rfl rfl ?_
  refine z_iconst (x := 0) (pc' := 2) dX12_uses_1 (by decide) rfl ?_
  obtain ⟨S1, hG⟩ : ∃ z, z = zup S 416 0 0 := ⟨_, rfl⟩
  have h := h _ hG
  refine r_putI (kf := 0) (pc' := 5) hK dX12_uses_2 kX12_178 rfl (by decide) (by decide) rfl rfl (zok_int _) ?_
  refine r_st hG ?_
  refine z_aload_n (pc' := 6) dX12_uses_5 rfl rfl ?_
  refine z_aload_n (pc' := 7) dX12_uses_6 rfl rfl ?_
  refine r_getI (kf := 3) (pc' := 10) hK dX12_uses_7 kX12_181 rfl (by decide) (by decide) rfl ?_
  obtain ⟨S2, hG⟩ : ∃ z, z = zup S1 416 5 (S1 416 3) := ⟨_, rfl⟩
  have h := h _ hG
  refine r_putI (kf := 5) (pc' := 13) hK dX12_uses_10 kX12_184 rfl (by decide) (by decide) rfl rfl (zok_int _) ?_
  refine r_st hG ?_
  refine z_aload_n (pc' := 14) dX12_uses_13 rfl rfl ?_
  refine z_iconst (x := 0) (pc' := 15) dX12_uses_14 (by decide) rfl ?_
  obtain ⟨S3, hG⟩ : ∃ z, z = zup S2 416 3 0 := ⟨_, rfl⟩
  have h := h _ hG
  refine r_putI (kf := 3) (pc' := 18) hK dX12_uses_15 kX12_181 rfl (by decide) (by decide) rfl rfl (zok_int _) ?_
  refine r_st hG ?_
  refine z_aload_n (pc' := 19) dX12_uses_18 rfl rfl ?_
  refine z_iconst (x := 0) (pc' := 20) dX12_uses_19 (by decide) rfl ?_
  obtain ⟨S4, hG⟩ : ∃ z, z = zup S3 416 4 0 := ⟨_, rfl⟩
  have h := h _ hG
  refine r_putI (kf := 4) (pc' := 23) hK dX12_uses_20 kX12_187 rfl (by decide) (by decide) rfl rfl (zok_int _) ?_
  refine r_st hG ?_
  exact z_vret dX12_uses_23 rfl ⟨_, _, rfl, rfl, h⟩
def rwp_X12_valid_0 (E : ZE) (l : Launch) (d b : Nat) (A G : ZG) (Q : Option Value → ZS9 → Prop) (k : Nat) (x1 : Int32) (x2 : Int32) (S : ZS9) : Prop :=
  ∀ S1, S1 = zup S 416 0 0 →
  rcI E l mX12_nobody d [.int x1] S1 k (fun y4 S2 k3 =>
  rcI E l mX12_throwsIf d [.int y4, .int 1] S2 k3 (fun y7 S5 k6 =>
  ((y7 = 0 →
    rcI E l mX12_validOf d [.int x1, .int x2] S5 k6 (fun y10 S8 k9 =>
    Q (some (.int y10)) S8)) ∧
  (¬ (y7 = 0) →
    Q (some (.int 0)) S5))))
theorem rwpt_X12_valid_0 {E : ZE} {l : Launch} {d b : Nat} {A G : ZG} {Q : Option Value → ZS9 → Prop} {k : Nat} {x1 : Int32} {x2 : Int32} {S : ZS9} (hK : RK G) (h : rwp_X12_valid_0 E l d b A G Q k x1 x2 S) : zW E l mX12_valid d b A (rQ G Q) k 0 [some (.ref (zp 416 0)), some (.int x1), some (.int x2)] [] (zput G S) := by
  unfold rwp_X12_valid_0 at h
  refine z_aload_n (pc' := 1) dX12_valid_0 rfl rfl ?_
  refine z_iconst (x := 0) (pc' := 2) dX12_valid_1 (by decide) rfl ?_
  obtain ⟨S1, hG⟩ : ∃ z, z = zup S 416 0 0 := ⟨_, rfl⟩
  have h := h _ hG
  refine r_putI (kf := 0) (pc' := 5) hK dX12_valid_2 kX12_178 rfl (by decide) (by decide) rfl rfl (zok_int _) ?_
  refine r_st hG ?_
  refine z_aload_n (pc' := 6) dX12_valid_5 rfl rfl ?_
  refine z_aload_n (pc' := 7) dX12_valid_6 rfl rfl ?_
  refine z_iload_n (pc' := 8) dX12_valid_7 rfl rfl ?_
  refine r_callI (Y := mX12_nobody) (n := 1) (as := [.int x1]) (st := [.ref (zp 416 0)]) (pc' := 11) h hK dX12_valid_8 kX12_385 vX12_nobody rfl rfl rfl (Nat.le_of_ble_eq_true rfl) (fun y4 S2 k3 h => ?_)
  refine z_iconst (x := 1) (pc' := 12) dX12_valid_11 (by decide) rfl ?_
  refine r_callI (Y := mX12_throwsIf) (n := 2) (as := [.int y4, .int 1]) (st := []) (pc' := 15) h hK dX12_valid_12 kX12_321 vX12_throwsIf rfl rfl rfl (Nat.le_of_ble_eq_true rfl) (fun y7 S5 k6 h => ?_)
  refine z_if_eq (pt := 22) (pc' := 18) dX12_valid_15 (by decide) rfl (fun hc => ?_) (fun hc => ?_)
  · have h := h.1 hc
    refine z_aload_n (pc' := 23) dX12_valid_22 rfl rfl ?_
    refine z_iload_n (pc' := 24) dX12_valid_23 rfl rfl ?_
    refine z_iload_n (pc' := 25) dX12_valid_24 rfl rfl ?_
    refine r_callI (Y := mX12_validOf) (n := 2) (as := [.int x1, .int x2]) (st := []) (pc' := 28) h hK dX12_valid_25 kX12_337 vX12_validOf rfl rfl rfl (Nat.le_of_ble_eq_true rfl) (fun y10 S8 k9 h => ?_)
    exact z_iret dX12_valid_28 rfl ⟨_, _, rfl, rfl, h⟩
  · have h := h.2 hc
    refine z_iconst (x := 0) (pc' := 19) dX12_valid_18 (by decide) rfl ?_
    refine z_goto (pc' := 28) dX12_valid_19 (by decide) ?_
    exact z_iret dX12_valid_28 rfl ⟨_, _, rfl, rfl, h⟩
def rwp_X12_validOf_0 (E : ZE) (l : Launch) (d b : Nat) (A G : ZG) (Q : Option Value → ZS9 → Prop) (k : Nat) (x1 : Int32) (x2 : Int32) (S : ZS9) : Prop :=
  zW E l mX12_validOf d b A (rQ G Q) k 5 [some (.ref (zp 416 0)), some (.int x1), some (.int x2), some (.int 0), some (.int 0)] [] (zput G S)
theorem rwpt_X12_validOf_0 {E : ZE} {l : Launch} {d b : Nat} {A G : ZG} {Q : Option Value → ZS9 → Prop} {k : Nat} {x1 : Int32} {x2 : Int32} {S : ZS9} (hK : RK G) (h : rwp_X12_validOf_0 E l d b A G Q k x1 x2 S) : zW E l mX12_validOf d b A (rQ G Q) k 0 [some (.ref (zp 416 0)), some (.int x1), some (.int x2), none, none] [] (zput G S) := by
  unfold rwp_X12_validOf_0 at h
  refine z_iconst (x := 0) (pc' := 1) dX12_validOf_0 (by decide) rfl ?_
  refine z_istore_n (pc' := 2) dX12_validOf_1 (by decide) rfl ?_
  refine z_iconst (x := 0) (pc' := 3) dX12_validOf_2 (by decide) rfl ?_
  refine z_istore (pc' := 5) dX12_validOf_3 (by decide) rfl ?_
  exact z_dr (ls' := [some (.ref (zp 416 0)), some (.int x1), some (.int x2), some (.int 0), some (.int 0)]) ⟨rfl, rfl, rfl, rfl, rfl, trivial⟩ h
def rwp_X12_validOf_5 (E : ZE) (l : Launch) (d b : Nat) (A G : ZG) (Q : Option Value → ZS9 → Prop) (k : Nat) (x1 : Int32) (x2 : Int32) (x3 : Int32) (x4 : Int32) (S : ZS9) : Prop :=
  (((S 416 71) ≤ x4 →
    Q (some (.int x3)) S) ∧
  (¬ ((S 416 71) ≤ x4) →
    vp_in x4 150 ∧
    ((¬ (S 1167 x4.toNatClampNeg) = x1 →
      zW E l mX12_validOf d b A (rQ G Q) k 5 [some (.ref (zp 416 0)), some (.int x1), some (.int x2), some (.int (x3 + 0)), some (.int (x4 + 1))] [] (zput G S)) ∧
    (¬ (¬ (S 1167 x4.toNatClampNeg) = x1) →
      vp_in x4 150 ∧
      ((x2 < (S 1168 x4.toNatClampNeg) →
        zW E l mX12_validOf d b A (rQ G Q) k 5 [some (.ref (zp 416 0)), some (.int x1), some (.int x2), some (.int (x3 + 0)), some (.int (x4 + 1))] [] (zput G S)) ∧
      (¬ (x2 < (S 1168 x4.toNatClampNeg)) →
        vp_in x4 150 ∧
        (((S 1169 x4.toNatClampNeg) ≤ x2 →
          zW E l mX12_validOf d b A (rQ G Q) k 5 [some (.ref (zp 416 0)), some (.int x1), some (.int x2), some (.int (x3 + 0)), some (.int (x4 + 1))] [] (zput G S)) ∧
        (¬ ((S 1169 x4.toNatClampNeg) ≤ x2) →
          zW E l mX12_validOf d b A (rQ G Q) k 5 [some (.ref (zp 416 0)), some (.int x1), some (.int x2), some (.int (x3 + 1)), some (.int (x4 + 1))] [] (zput G S)))))))))
theorem rwpt_X12_validOf_5 {E : ZE} {l : Launch} {d b : Nat} {A G : ZG} {Q : Option Value → ZS9 → Prop} {k : Nat} {x1 : Int32} {x2 : Int32} {x3 : Int32} {x4 : Int32} {S : ZS9} (hK : RK G) (h : rwp_X12_validOf_5 E l d b A G Q k x1 x2 x3 x4 S) : zW E l mX12_validOf d b A (rQ G Q) k 5 [some (.ref (zp 416 0)), some (.int x1), some (.int x2), some (.int x3), some (.int x4)] [] (zput G S) := by
  unfold rwp_X12_validOf_5 at h
  refine z_iload (pc' := 7) dX12_validOf_5 rfl rfl ?_
  refine z_aload_n (pc' := 8) dX12_validOf_7 rfl rfl ?_
  refine r_getI (kf := 71) (pc' := 11) hK dX12_validOf_8 kX12_415 rfl (by decide) (by decide) rfl ?_
  refine z_icmp_ge (pt := 61) (pc' := 14) dX12_validOf_11 (by decide) rfl (fun hc => ?_) (fun hc => ?_)
  · have h := h.1 hc
    refine z_iload_n (pc' := 62) dX12_validOf_61 rfl rfl ?_
    exact z_iret dX12_validOf_62 rfl ⟨_, _, rfl, rfl, h⟩
  · have h := h.2 hc
    refine z_iload_n (pc' := 15) dX12_validOf_14 rfl rfl ?_
    refine z_aload_n (pc' := 16) dX12_validOf_15 rfl rfl ?_
    refine r_getA (kf := 67) (pc' := 19) hK rt_67 dX12_validOf_16 kX12_151 rfl (by decide) (by decide) rfl ?_
    refine z_iload (pc' := 21) dX12_validOf_19 rfl rfl ?_
    obtain ⟨h1, h⟩ := h
    refine r_iald (pc' := 22) hK rt_67 rfl dX12_validOf_21 rfl h1 ?_
    refine z_iload_n (pc' := 23) dX12_validOf_22 rfl rfl ?_
    refine z_icmp_ne (pt := 52) (pc' := 26) dX12_validOf_23 (by decide) rfl (fun hc => ?_) (fun hc => ?_)
    · have h := h.1 hc
      refine z_iconst (x := 0) (pc' := 53) dX12_validOf_52 (by decide) rfl ?_
      refine z_iadd (pc' := 54) dX12_validOf_53 rfl rfl ?_
      refine z_istore_n (pc' := 55) dX12_validOf_54 (by decide) rfl ?_
      refine z_iinc (y := x4 + 1) (pc' := 58) dX12_validOf_55 rfl (zinc_1 _) (by decide) rfl ?_
      refine z_goto (pc' := 5) dX12_validOf_58 (by decide) ?_
      exact z_dr (ls' := [some (.ref (zp 416 0)), some (.int x1), some (.int x2), some (.int (x3 + 0)), some (.int (x4 + 1))]) ⟨rfl, rfl, rfl, rfl, rfl, trivial⟩ h
    · have h := h.2 hc
      refine z_aload_n (pc' := 27) dX12_validOf_26 rfl rfl ?_
      refine r_getA (kf := 68) (pc' := 30) hK rt_68 dX12_validOf_27 kX12_154 rfl (by decide) (by decide) rfl ?_
      refine z_iload (pc' := 32) dX12_validOf_30 rfl rfl ?_
      obtain ⟨h1, h⟩ := h
      refine r_iald (pc' := 33) hK rt_68 rfl dX12_validOf_32 rfl h1 ?_
      refine z_iload_n (pc' := 34) dX12_validOf_33 rfl rfl ?_
      refine z_icmp_gt (pt := 52) (pc' := 37) dX12_validOf_34 (by decide) rfl (fun hc => ?_) (fun hc => ?_)
      · have h := h.1 hc
        refine z_iconst (x := 0) (pc' := 53) dX12_validOf_52 (by decide) rfl ?_
        refine z_iadd (pc' := 54) dX12_validOf_53 rfl rfl ?_
        refine z_istore_n (pc' := 55) dX12_validOf_54 (by decide) rfl ?_
        refine z_iinc (y := x4 + 1) (pc' := 58) dX12_validOf_55 rfl (zinc_1 _) (by decide) rfl ?_
        refine z_goto (pc' := 5) dX12_validOf_58 (by decide) ?_
        exact z_dr (ls' := [some (.ref (zp 416 0)), some (.int x1), some (.int x2), some (.int (x3 + 0)), some (.int (x4 + 1))]) ⟨rfl, rfl, rfl, rfl, rfl, trivial⟩ h
      · have h := h.2 hc
        refine z_iload_n (pc' := 38) dX12_validOf_37 rfl rfl ?_
        refine z_aload_n (pc' := 39) dX12_validOf_38 rfl rfl ?_
        refine r_getA (kf := 69) (pc' := 42) hK rt_69 dX12_validOf_39 kX12_157 rfl (by decide) (by decide) rfl ?_
        refine z_iload (pc' := 44) dX12_validOf_42 rfl rfl ?_
        obtain ⟨h1, h⟩ := h
        refine r_iald (pc' := 45) hK rt_69 rfl dX12_validOf_44 rfl h1 ?_
        refine z_icmp_ge (pt := 52) (pc' := 48) dX12_validOf_45 (by decide) rfl (fun hc => ?_) (fun hc => ?_)
        · have h := h.1 hc
          refine z_iconst (x := 0) (pc' := 53) dX12_validOf_52 (by decide) rfl ?_
          refine z_iadd (pc' := 54) dX12_validOf_53 rfl rfl ?_
          refine z_istore_n (pc' := 55) dX12_validOf_54 (by decide) rfl ?_
          refine z_iinc (y := x4 + 1) (pc' := 58) dX12_validOf_55 rfl (zinc_1 _) (by decide) rfl ?_
          refine z_goto (pc' := 5) dX12_validOf_58 (by decide) ?_
          exact z_dr (ls' := [some (.ref (zp 416 0)), some (.int x1), some (.int x2), some (.int (x3 + 0)), some (.int (x4 + 1))]) ⟨rfl, rfl, rfl, rfl, rfl, trivial⟩ h
        · have h := h.2 hc
          refine z_iconst (x := 1) (pc' := 49) dX12_validOf_48 (by decide) rfl ?_
          refine z_goto (pc' := 53) dX12_validOf_49 (by decide) ?_
          refine z_iadd (pc' := 54) dX12_validOf_53 rfl rfl ?_
          refine z_istore_n (pc' := 55) dX12_validOf_54 (by decide) rfl ?_
          refine z_iinc (y := x4 + 1) (pc' := 58) dX12_validOf_55 rfl (zinc_1 _) (by decide) rfl ?_
          refine z_goto (pc' := 5) dX12_validOf_58 (by decide) ?_
          exact z_dr (ls' := [some (.ref (zp 416 0)), some (.int x1), some (.int x2), some (.int (x3 + 1)), some (.int (x4 + 1))]) ⟨rfl, rfl, rfl, rfl, rfl, trivial⟩ h
def rwp_X12_waits_0 (E : ZE) (l : Launch) (d b : Nat) (A G : ZG) (Q : Option Value → ZS9 → Prop) (k : Nat) (x1 : Int32) (x2 : Int32) (S : ZS9) : Prop :=
  ∀ S1, S1 = zup S 416 0 0 →
  scI E l mX12_in d [.int x1, .int 0, .int 3] (fun y2 =>
  ((¬ y2 = 0 →
    rcI E l mX12_throwsIf d [.int 0, .int 1] S1 k (fun y5 S3 k4 =>
    ((y5 = 0 →
      zW E l mX12_waits d b A (rQ G Q) k4 34 [some (.ref (zp 416 0)), some (.int x1), some (.int x2), some (.int 0), some (.int 0), none, none, none, none] [] (zput G S3)) ∧
    (¬ (y5 = 0) →
      Q (some (.int 0)) S3)))) ∧
  (¬ (¬ y2 = 0) →
    rcI E l mX12_throwsIf d [.int 1, .int 1] S1 k (fun y8 S6 k7 =>
    ((y8 = 0 →
      zW E l mX12_waits d b A (rQ G Q) k7 34 [some (.ref (zp 416 0)), some (.int x1), some (.int x2), some (.int 0), some (.int 0), none, none, none, none] [] (zput G S6)) ∧
    (¬ (y8 = 0) →
      Q (some (.int 0)) S6))))))
theorem rwpt_X12_waits_0 {E : ZE} {l : Launch} {d b : Nat} {A G : ZG} {Q : Option Value → ZS9 → Prop} {k : Nat} {x1 : Int32} {x2 : Int32} {S : ZS9} (hK : RK G) (h : rwp_X12_waits_0 E l d b A G Q k x1 x2 S) : zW E l mX12_waits d b A (rQ G Q) k 0 [some (.ref (zp 416 0)), some (.int x1), some (.int x2), none, none, none, none, none, none] [] (zput G S) := by
  unfold rwp_X12_waits_0 at h
  refine z_aload_n (pc' := 1) dX12_waits_0 rfl rfl ?_
  refine z_iconst (x := 0) (pc' := 2) dX12_waits_1 (by decide) rfl ?_
  obtain ⟨S1, hG⟩ : ∃ z, z = zup S 416 0 0 := ⟨_, rfl⟩
  have h := h _ hG
  refine r_putI (kf := 0) (pc' := 5) hK dX12_waits_2 kX12_178 rfl (by decide) (by decide) rfl rfl (zok_int _) ?_
  refine r_st hG ?_
  refine z_aload_n (pc' := 6) dX12_waits_5 rfl rfl ?_
  refine z_iload_n (pc' := 7) dX12_waits_6 rfl rfl ?_
  refine z_iconst (x := 0) (pc' := 8) dX12_waits_7 (by decide) rfl ?_
  refine z_iconst (x := 3) (pc' := 9) dX12_waits_8 (by decide) rfl ?_
  refine r_callSI (Y := mX12_in) (n := 3) (as := [.int x1, .int 0, .int 3]) (st := [.ref (zp 416 0)]) (pc' := 12) h dX12_waits_9 kX12_317 sX12_in rfl rfl (Nat.le_of_ble_eq_true rfl) (fun y2 h => ?_)
  refine z_if_ne (pt := 19) (pc' := 15) dX12_waits_12 (by decide) rfl (fun hc => ?_) (fun hc => ?_)
  · have h := h.1 hc
    refine z_iconst (x := 0) (pc' := 20) dX12_waits_19 (by decide) rfl ?_
    refine z_iconst (x := 1) (pc' := 21) dX12_waits_20 (by decide) rfl ?_
    refine r_callI (Y := mX12_throwsIf) (n := 2) (as := [.int 0, .int 1]) (st := []) (pc' := 24) h hK dX12_waits_21 kX12_321 vX12_throwsIf rfl rfl rfl (Nat.le_of_ble_eq_true rfl) (fun y5 S3 k4 h => ?_)
    refine z_if_eq (pt := 29) (pc' := 27) dX12_waits_24 (by decide) rfl (fun hc => ?_) (fun hc => ?_)
    · have h := h.1 hc
      refine z_iconst (x := 0) (pc' := 30) dX12_waits_29 (by decide) rfl ?_
      refine z_istore_n (pc' := 31) dX12_waits_30 (by decide) rfl ?_
      refine z_iconst (x := 0) (pc' := 32) dX12_waits_31 (by decide) rfl ?_
      refine z_istore (pc' := 34) dX12_waits_32 (by decide) rfl ?_
      exact z_dr (ls' := [some (.ref (zp 416 0)), some (.int x1), some (.int x2), some (.int 0), some (.int 0), none, none, none, none]) ⟨rfl, rfl, rfl, rfl, rfl, trivial⟩ h
    · have h := h.2 hc
      refine z_iconst (x := 0) (pc' := 28) dX12_waits_27 (by decide) rfl ?_
      exact z_iret dX12_waits_28 rfl ⟨_, _, rfl, rfl, h⟩
  · have h := h.2 hc
    refine z_iconst (x := 1) (pc' := 16) dX12_waits_15 (by decide) rfl ?_
    refine z_goto (pc' := 20) dX12_waits_16 (by decide) ?_
    refine z_iconst (x := 1) (pc' := 21) dX12_waits_20 (by decide) rfl ?_
    refine r_callI (Y := mX12_throwsIf) (n := 2) (as := [.int 1, .int 1]) (st := []) (pc' := 24) h hK dX12_waits_21 kX12_321 vX12_throwsIf rfl rfl rfl (Nat.le_of_ble_eq_true rfl) (fun y8 S6 k7 h => ?_)
    refine z_if_eq (pt := 29) (pc' := 27) dX12_waits_24 (by decide) rfl (fun hc => ?_) (fun hc => ?_)
    · have h := h.1 hc
      refine z_iconst (x := 0) (pc' := 30) dX12_waits_29 (by decide) rfl ?_
      refine z_istore_n (pc' := 31) dX12_waits_30 (by decide) rfl ?_
      refine z_iconst (x := 0) (pc' := 32) dX12_waits_31 (by decide) rfl ?_
      refine z_istore (pc' := 34) dX12_waits_32 (by decide) rfl ?_
      exact z_dr (ls' := [some (.ref (zp 416 0)), some (.int x1), some (.int x2), some (.int 0), some (.int 0), none, none, none, none]) ⟨rfl, rfl, rfl, rfl, rfl, trivial⟩ h
    · have h := h.2 hc
      refine z_iconst (x := 0) (pc' := 28) dX12_waits_27 (by decide) rfl ?_
      exact z_iret dX12_waits_28 rfl ⟨_, _, rfl, rfl, h⟩
def rwp_X12_waits_34 (E : ZE) (l : Launch) (d b : Nat) (A G : ZG) (Q : Option Value → ZS9 → Prop) (k : Nat) (x1 : Int32) (x2 : Int32) (x3 : Int32) (x4 : Int32) (S : ZS9) : Prop :=
  (((S 416 66) ≤ x4 →
    scI E l mJ9_min_7cf53 d [.int 20, .int x3] (fun y1 =>
    ((¬ y1 = 0 →
      zW E l mX12_waits d b A (rQ G Q) k 159 [some (.ref (zp 416 0)), none, some (.int x2), some (.int x3), some (.int y1), some (.int 0), none, none, none] [] (zput G S)) ∧
    (¬ (¬ y1 = 0) →
      Q (some (.int (-1))) S)))) ∧
  (¬ ((S 416 66) ≤ x4) →
    vp_in x4 120 ∧
    ((¬ (S 1154 x4.toNatClampNeg) = x1 →
      zW E l mX12_waits d b A (rQ G Q) k 34 [some (.ref (zp 416 0)), some (.int x1), some (.int x2), some (.int x3), some (.int (x4 + 1)), none, none, none, none] [] (zput G S)) ∧
    (¬ (¬ (S 1154 x4.toNatClampNeg) = x1) →
      rcI E l mX12_now d [.int x4, .int 0] S k (fun y4 S2 k3 =>
      ((y4 = 7 →
        zW E l mX12_waits d b A (rQ G Q) k3 72 [some (.ref (zp 416 0)), some (.int x1), some (.int x2), some (.int x3), some (.int x4), some (.int x3), none, none, none] [] (zput G S2)) ∧
      (¬ (y4 = 7) →
        zW E l mX12_waits d b A (rQ G Q) k3 34 [some (.ref (zp 416 0)), some (.int x1), some (.int x2), some (.int x3), some (.int (x4 + 1)), none, none, none, none] [] (zput G S2))))))))
theorem rwpt_X12_waits_34 {E : ZE} {l : Launch} {d b : Nat} {A G : ZG} {Q : Option Value → ZS9 → Prop} {k : Nat} {x1 : Int32} {x2 : Int32} {x3 : Int32} {x4 : Int32} {S : ZS9} (hK : RK G) (h : rwp_X12_waits_34 E l d b A G Q k x1 x2 x3 x4 S) : zW E l mX12_waits d b A (rQ G Q) k 34 [some (.ref (zp 416 0)), some (.int x1), some (.int x2), some (.int x3), some (.int x4), none, none, none, none] [] (zput G S) := by
  unfold rwp_X12_waits_34 at h
  refine z_iload (pc' := 36) dX12_waits_34 rfl rfl ?_
  refine z_aload_n (pc' := 37) dX12_waits_36 rfl rfl ?_
  refine r_getI (kf := 66) (pc' := 40) hK dX12_waits_37 kX12_412 rfl (by decide) (by decide) rfl ?_
  refine z_icmp_ge (pt := 141) (pc' := 43) dX12_waits_40 (by decide) rfl (fun hc => ?_) (fun hc => ?_)
  · have h := h.1 hc
    refine z_bipush (x := 20) (pc' := 143) dX12_waits_141 (by decide) rfl ?_
    refine z_iload_n (pc' := 144) dX12_waits_143 rfl rfl ?_
    refine r_callSI (Y := mJ9_min_7cf53) (n := 2) (as := [.int 20, .int x3]) (st := []) (pc' := 147) h dX12_waits_144 kX12_369 sJ9_min_7cf53 rfl rfl (Nat.le_of_ble_eq_true rfl) (fun y1 h => ?_)
    refine z_istore (pc' := 149) dX12_waits_147 (by decide) rfl ?_
    refine z_iload (pc' := 151) dX12_waits_149 rfl rfl ?_
    refine z_if_ne (pt := 156) (pc' := 154) dX12_waits_151 (by decide) rfl (fun hc => ?_) (fun hc => ?_)
    · have h := h.1 hc
      refine z_iconst (x := 0) (pc' := 157) dX12_waits_156 (by decide) rfl ?_
      refine z_istore (pc' := 159) dX12_waits_157 (by decide) rfl ?_
      exact z_dr (ls' := [some (.ref (zp 416 0)), none, some (.int x2), some (.int x3), some (.int y1), some (.int 0), none, none, none]) ⟨rfl, rfl, rfl, rfl, rfl, trivial⟩ h
    · have h := h.2 hc
      refine z_iconst (x := (-1)) (pc' := 155) dX12_waits_154 (by decide) rfl ?_
      exact z_iret dX12_waits_155 rfl ⟨_, _, rfl, rfl, h⟩
  · have h := h.2 hc
    refine z_aload_n (pc' := 44) dX12_waits_43 rfl rfl ?_
    refine r_getA (kf := 54) (pc' := 47) hK rt_54 dX12_waits_44 kX12_115 rfl (by decide) (by decide) rfl ?_
    refine z_iload (pc' := 49) dX12_waits_47 rfl rfl ?_
    obtain ⟨h1, h⟩ := h
    refine r_iald (pc' := 50) hK rt_54 rfl dX12_waits_49 rfl h1 ?_
    refine z_iload_n (pc' := 51) dX12_waits_50 rfl rfl ?_
    refine z_icmp_ne (pt := 135) (pc' := 54) dX12_waits_51 (by decide) rfl (fun hc => ?_) (fun hc => ?_)
    · have h := h.1 hc
      refine z_iinc (y := x4 + 1) (pc' := 138) dX12_waits_135 rfl (zinc_1 _) (by decide) rfl ?_
      refine z_goto (pc' := 34) dX12_waits_138 (by decide) ?_
      exact z_dr (ls' := [some (.ref (zp 416 0)), some (.int x1), some (.int x2), some (.int x3), some (.int (x4 + 1)), none, none, none, none]) ⟨rfl, rfl, rfl, rfl, rfl, trivial⟩ h
    · have h := h.2 hc
      refine z_aload_n (pc' := 55) dX12_waits_54 rfl rfl ?_
      refine z_iload (pc' := 57) dX12_waits_55 rfl rfl ?_
      refine z_iconst (x := 0) (pc' := 58) dX12_waits_57 (by decide) rfl ?_
      refine r_callI (Y := mX12_now) (n := 2) (as := [.int x4, .int 0]) (st := []) (pc' := 61) h hK dX12_waits_58 kX12_434 vX12_now rfl rfl rfl (Nat.le_of_ble_eq_true rfl) (fun y4 S2 k3 h => ?_)
      refine z_bipush (x := 7) (pc' := 63) dX12_waits_61 (by decide) rfl ?_
      refine z_icmp_eq (pt := 69) (pc' := 66) dX12_waits_63 (by decide) rfl (fun hc => ?_) (fun hc => ?_)
      · have h := h.1 hc
        refine z_iload_n (pc' := 70) dX12_waits_69 rfl rfl ?_
        refine z_istore (pc' := 72) dX12_waits_70 (by decide) rfl ?_
        exact z_dr (ls' := [some (.ref (zp 416 0)), some (.int x1), some (.int x2), some (.int x3), some (.int x4), some (.int x3), none, none, none]) ⟨rfl, rfl, rfl, rfl, rfl, rfl, trivial⟩ h
      · have h := h.2 hc
        refine z_goto (pc' := 135) dX12_waits_66 (by decide) ?_
        refine z_iinc (y := x4 + 1) (pc' := 138) dX12_waits_135 rfl (zinc_1 _) (by decide) rfl ?_
        refine z_goto (pc' := 34) dX12_waits_138 (by decide) ?_
        exact z_dr (ls' := [some (.ref (zp 416 0)), some (.int x1), some (.int x2), some (.int x3), some (.int (x4 + 1)), none, none, none, none]) ⟨rfl, rfl, rfl, rfl, rfl, trivial⟩ h
def rwp_X12_waits_72 (E : ZE) (l : Launch) (d b : Nat) (A G : ZG) (Q : Option Value → ZS9 → Prop) (k : Nat) (x1 : Int32) (x2 : Int32) (x3 : Int32) (x4 : Int32) (x5 : Int32) (S : ZS9) : Prop :=
  ((x5 ≤ 0 →
    vp_in x5 120 ∧
    ∀ S1, S1 = zup S 1182 x5.toNatClampNeg x4 →
    zW E l mX12_waits d b A (rQ G Q) k 34 [some (.ref (zp 416 0)), some (.int x1), some (.int x2), some (.int (x3 + 1)), some (.int (x4 + 1)), none, none, none, none] [] (zput G S1)) ∧
  (¬ (x5 ≤ 0) →
    vp_in (x5 - 1) 120 ∧
    rcI E l mX12_now d [.int (S 1182 (x5 - 1).toNatClampNeg), .int 3] S k (fun y4 S2 k3 =>
    rcI E l mX12_now d [.int x4, .int 3] S2 k3 (fun y7 S5 k6 =>
    ((y4 ≤ y7 →
      vp_in x5 120 ∧
      ∀ S8, S8 = zup S5 1182 x5.toNatClampNeg x4 →
      zW E l mX12_waits d b A (rQ G Q) k6 34 [some (.ref (zp 416 0)), some (.int x1), some (.int x2), some (.int (x3 + 1)), some (.int (x4 + 1)), none, none, none, none] [] (zput G S8)) ∧
    (¬ (y4 ≤ y7) →
      vp_in (x5 - 1) 120 ∧
      vp_in x5 120 ∧
      ∀ S9, S9 = zup S5 1182 x5.toNatClampNeg (S5 1182 (x5 - 1).toNatClampNeg) →
      zW E l mX12_waits d b A (rQ G Q) k6 72 [some (.ref (zp 416 0)), some (.int x1), some (.int x2), some (.int x3), some (.int x4), some (.int (x5 + (-1))), none, none, none] [] (zput G S9)))))))
theorem rwpt_X12_waits_72 {E : ZE} {l : Launch} {d b : Nat} {A G : ZG} {Q : Option Value → ZS9 → Prop} {k : Nat} {x1 : Int32} {x2 : Int32} {x3 : Int32} {x4 : Int32} {x5 : Int32} {S : ZS9} (hK : RK G) (h : rwp_X12_waits_72 E l d b A G Q k x1 x2 x3 x4 x5 S) : zW E l mX12_waits d b A (rQ G Q) k 72 [some (.ref (zp 416 0)), some (.int x1), some (.int x2), some (.int x3), some (.int x4), some (.int x5), none, none, none] [] (zput G S) := by
  unfold rwp_X12_waits_72 at h
  refine z_iload (pc' := 74) dX12_waits_72 rfl rfl ?_
  refine z_if_le (pt := 123) (pc' := 77) dX12_waits_74 (by decide) rfl (fun hc => ?_) (fun hc => ?_)
  · have h := h.1 hc
    refine z_aload_n (pc' := 124) dX12_waits_123 rfl rfl ?_
    refine r_getA (kf := 82) (pc' := 127) hK rt_82 dX12_waits_124 kX12_175 rfl (by decide) (by decide) rfl ?_
    refine z_iload (pc' := 129) dX12_waits_127 rfl rfl ?_
    refine z_iload (pc' := 131) dX12_waits_129 rfl rfl ?_
    obtain ⟨h1, h⟩ := h
    obtain ⟨S1, hG⟩ : ∃ z, z = zup S 1182 x5.toNatClampNeg x4 := ⟨_, rfl⟩
    have h := h _ hG
    refine r_iast (pc' := 132) hK rt_82 rfl dX12_waits_131 rfl h1  ?_
    refine r_st hG ?_
    refine z_iinc (y := x3 + 1) (pc' := 135) dX12_waits_132 rfl (zinc_1 _) (by decide) rfl ?_
    refine z_iinc (y := x4 + 1) (pc' := 138) dX12_waits_135 rfl (zinc_1 _) (by decide) rfl ?_
    refine z_goto (pc' := 34) dX12_waits_138 (by decide) ?_
    exact z_dr (ls' := [some (.ref (zp 416 0)), some (.int x1), some (.int x2), some (.int (x3 + 1)), some (.int (x4 + 1)), none, none, none, none]) ⟨rfl, rfl, rfl, rfl, rfl, trivial⟩ h
  · have h := h.2 hc
    refine z_aload_n (pc' := 78) dX12_waits_77 rfl rfl ?_
    refine z_aload_n (pc' := 79) dX12_waits_78 rfl rfl ?_
    refine r_getA (kf := 82) (pc' := 82) hK rt_82 dX12_waits_79 kX12_175 rfl (by decide) (by decide) rfl ?_
    refine z_iload (pc' := 84) dX12_waits_82 rfl rfl ?_
    refine z_iconst (x := 1) (pc' := 85) dX12_waits_84 (by decide) rfl ?_
    refine z_isub (pc' := 86) dX12_waits_85 rfl rfl ?_
    obtain ⟨h1, h⟩ := h
    refine r_iald (pc' := 87) hK rt_82 rfl dX12_waits_86 rfl h1 ?_
    refine z_iconst (x := 3) (pc' := 88) dX12_waits_87 (by decide) rfl ?_
    refine r_callI (Y := mX12_now) (n := 2) (as := [.int (S 1182 (x5 - 1).toNatClampNeg), .int 3]) (st := []) (pc' := 91) h hK dX12_waits_88 kX12_434 vX12_now rfl rfl rfl (Nat.le_of_ble_eq_true rfl) (fun y4 S2 k3 h => ?_)
    refine z_aload_n (pc' := 92) dX12_waits_91 rfl rfl ?_
    refine z_iload (pc' := 94) dX12_waits_92 rfl rfl ?_
    refine z_iconst (x := 3) (pc' := 95) dX12_waits_94 (by decide) rfl ?_
    refine r_callI (Y := mX12_now) (n := 2) (as := [.int x4, .int 3]) (st := [.int y4]) (pc' := 98) h hK dX12_waits_95 kX12_434 vX12_now rfl rfl rfl (Nat.le_of_ble_eq_true rfl) (fun y7 S5 k6 h => ?_)
    refine z_icmp_le (pt := 123) (pc' := 101) dX12_waits_98 (by decide) rfl (fun hc => ?_) (fun hc => ?_)
    · have h := h.1 hc
      refine z_aload_n (pc' := 124) dX12_waits_123 rfl rfl ?_
      refine r_getA (kf := 82) (pc' := 127) hK rt_82 dX12_waits_124 kX12_175 rfl (by decide) (by decide) rfl ?_
      refine z_iload (pc' := 129) dX12_waits_127 rfl rfl ?_
      refine z_iload (pc' := 131) dX12_waits_129 rfl rfl ?_
      obtain ⟨h1, h⟩ := h
      obtain ⟨S8, hG⟩ : ∃ z, z = zup S5 1182 x5.toNatClampNeg x4 := ⟨_, rfl⟩
      have h := h _ hG
      refine r_iast (pc' := 132) hK rt_82 rfl dX12_waits_131 rfl h1  ?_
      refine r_st hG ?_
      refine z_iinc (y := x3 + 1) (pc' := 135) dX12_waits_132 rfl (zinc_1 _) (by decide) rfl ?_
      refine z_iinc (y := x4 + 1) (pc' := 138) dX12_waits_135 rfl (zinc_1 _) (by decide) rfl ?_
      refine z_goto (pc' := 34) dX12_waits_138 (by decide) ?_
      exact z_dr (ls' := [some (.ref (zp 416 0)), some (.int x1), some (.int x2), some (.int (x3 + 1)), some (.int (x4 + 1)), none, none, none, none]) ⟨rfl, rfl, rfl, rfl, rfl, trivial⟩ h
    · have h := h.2 hc
      refine z_aload_n (pc' := 102) dX12_waits_101 rfl rfl ?_
      refine r_getA (kf := 82) (pc' := 105) hK rt_82 dX12_waits_102 kX12_175 rfl (by decide) (by decide) rfl ?_
      refine z_iload (pc' := 107) dX12_waits_105 rfl rfl ?_
      refine z_aload_n (pc' := 108) dX12_waits_107 rfl rfl ?_
      refine r_getA (kf := 82) (pc' := 111) hK rt_82 dX12_waits_108 kX12_175 rfl (by decide) (by decide) rfl ?_
      refine z_iload (pc' := 113) dX12_waits_111 rfl rfl ?_
      refine z_iconst (x := 1) (pc' := 114) dX12_waits_113 (by decide) rfl ?_
      refine z_isub (pc' := 115) dX12_waits_114 rfl rfl ?_
      obtain ⟨h1, h⟩ := h
      refine r_iald (pc' := 116) hK rt_82 rfl dX12_waits_115 rfl h1 ?_
      obtain ⟨h1, h⟩ := h
      obtain ⟨S9, hG⟩ : ∃ z, z = zup S5 1182 x5.toNatClampNeg (S5 1182 (x5 - 1).toNatClampNeg) := ⟨_, rfl⟩
      have h := h _ hG
      refine r_iast (pc' := 117) hK rt_82 rfl dX12_waits_116 rfl h1  ?_
      refine r_st hG ?_
      refine z_iinc (y := x5 + (-1)) (pc' := 120) dX12_waits_117 rfl (zinc_m1 _) (by decide) rfl ?_
      refine z_goto (pc' := 72) dX12_waits_120 (by decide) ?_
      exact z_dr (ls' := [some (.ref (zp 416 0)), some (.int x1), some (.int x2), some (.int x3), some (.int x4), some (.int (x5 + (-1))), none, none, none]) ⟨rfl, rfl, rfl, rfl, rfl, rfl, trivial⟩ h
def rwp_X12_waits_159 (E : ZE) (l : Launch) (d b : Nat) (A G : ZG) (Q : Option Value → ZS9 → Prop) (k : Nat) (x2 : Int32) (x3 : Int32) (x4 : Int32) (x5 : Int32) (S : ZS9) : Prop :=
  ((x4 ≤ x5 →
    ((x2 = 0 →
      vp_in (x4 / 10) 120 ∧
      Q (some (.int (S 1181 (x4 / 10).toNatClampNeg))) S) ∧
    (¬ (x2 = 0) →
      vp_in ((x4 - 1) - (x4 / 10)) 120 ∧
      Q (some (.int (S 1181 ((x4 - 1) - (x4 / 10)).toNatClampNeg))) S))) ∧
  (¬ (x4 ≤ x5) →
    vp_in ((x3 - x4) + x5) 120 ∧
    rcI E l mX12_now d [.int (S 1182 ((x3 - x4) + x5).toNatClampNeg), .int 3] S k (fun y3 S1 k2 =>
    vp_in (S 1182 ((x3 - x4) + x5).toNatClampNeg) 120 ∧
    zW E l mX12_waits d b A (rQ G Q) k2 201 [some (.ref (zp 416 0)), none, some (.int x2), some (.int x3), some (.int x4), some (.int x5), none, some (.int (y3 - (S1 1155 (S 1182 ((x3 - x4) + x5).toNatClampNeg).toNatClampNeg))), some (.int x5)] [] (zput G S1))))
theorem rwpt_X12_waits_159 {E : ZE} {l : Launch} {d b : Nat} {A G : ZG} {Q : Option Value → ZS9 → Prop} {k : Nat} {x2 : Int32} {x3 : Int32} {x4 : Int32} {x5 : Int32} {S : ZS9} (hK : RK G) (h : rwp_X12_waits_159 E l d b A G Q k x2 x3 x4 x5 S) : zW E l mX12_waits d b A (rQ G Q) k 159 [some (.ref (zp 416 0)), none, some (.int x2), some (.int x3), some (.int x4), some (.int x5), none, none, none] [] (zput G S) := by
  unfold rwp_X12_waits_159 at h
  refine z_iload (pc' := 161) dX12_waits_159 rfl rfl ?_
  refine z_iload (pc' := 163) dX12_waits_161 rfl rfl ?_
  refine z_icmp_ge (pt := 257) (pc' := 166) dX12_waits_163 (by decide) rfl (fun hc => ?_) (fun hc => ?_)
  · have h := h.1 hc
    refine z_iload_n (pc' := 258) dX12_waits_257 rfl rfl ?_
    refine z_if_eq (pt := 279) (pc' := 261) dX12_waits_258 (by decide) rfl (fun hc => ?_) (fun hc => ?_)
    · have h := h.1 hc
      refine z_aload_n (pc' := 280) dX12_waits_279 rfl rfl ?_
      refine r_getA (kf := 81) (pc' := 283) hK rt_81 dX12_waits_280 kX12_172 rfl (by decide) (by decide) rfl ?_
      refine z_iload (pc' := 285) dX12_waits_283 rfl rfl ?_
      refine z_bipush (x := 10) (pc' := 287) dX12_waits_285 (by decide) rfl ?_
      refine z_idiv (pc' := 288) dX12_waits_287 (by decide) rfl rfl ?_
      obtain ⟨h1, h⟩ := h
      refine r_iald (pc' := 289) hK rt_81 rfl dX12_waits_288 rfl h1 ?_
      exact z_iret dX12_waits_289 rfl ⟨_, _, rfl, rfl, h⟩
    · have h := h.2 hc
      refine z_aload_n (pc' := 262) dX12_waits_261 rfl rfl ?_
      refine r_getA (kf := 81) (pc' := 265) hK rt_81 dX12_waits_262 kX12_172 rfl (by decide) (by decide) rfl ?_
      refine z_iload (pc' := 267) dX12_waits_265 rfl rfl ?_
      refine z_iconst (x := 1) (pc' := 268) dX12_waits_267 (by decide) rfl ?_
      refine z_isub (pc' := 269) dX12_waits_268 rfl rfl ?_
      refine z_iload (pc' := 271) dX12_waits_269 rfl rfl ?_
      refine z_bipush (x := 10) (pc' := 273) dX12_waits_271 (by decide) rfl ?_
      refine z_idiv (pc' := 274) dX12_waits_273 (by decide) rfl rfl ?_
      refine z_isub (pc' := 275) dX12_waits_274 rfl rfl ?_
      obtain ⟨h1, h⟩ := h
      refine r_iald (pc' := 276) hK rt_81 rfl dX12_waits_275 rfl h1 ?_
      refine z_goto (pc' := 289) dX12_waits_276 (by decide) ?_
      exact z_iret dX12_waits_289 rfl ⟨_, _, rfl, rfl, h⟩
  · have h := h.2 hc
    refine z_aload_n (pc' := 167) dX12_waits_166 rfl rfl ?_
    refine r_getA (kf := 82) (pc' := 170) hK rt_82 dX12_waits_167 kX12_175 rfl (by decide) (by decide) rfl ?_
    refine z_iload_n (pc' := 171) dX12_waits_170 rfl rfl ?_
    refine z_iload (pc' := 173) dX12_waits_171 rfl rfl ?_
    refine z_isub (pc' := 174) dX12_waits_173 rfl rfl ?_
    refine z_iload (pc' := 176) dX12_waits_174 rfl rfl ?_
    refine z_iadd (pc' := 177) dX12_waits_176 rfl rfl ?_
    obtain ⟨h1, h⟩ := h
    refine r_iald (pc' := 178) hK rt_82 rfl dX12_waits_177 rfl h1 ?_
    refine z_istore (pc' := 180) dX12_waits_178 (by decide) rfl ?_
    refine z_aload_n (pc' := 181) dX12_waits_180 rfl rfl ?_
    refine z_iload (pc' := 183) dX12_waits_181 rfl rfl ?_
    refine z_iconst (x := 3) (pc' := 184) dX12_waits_183 (by decide) rfl ?_
    refine r_callI (Y := mX12_now) (n := 2) (as := [.int (S 1182 ((x3 - x4) + x5).toNatClampNeg), .int 3]) (st := []) (pc' := 187) h hK dX12_waits_184 kX12_434 vX12_now rfl rfl rfl (Nat.le_of_ble_eq_true rfl) (fun y3 S1 k2 h => ?_)
    refine z_aload_n (pc' := 188) dX12_waits_187 rfl rfl ?_
    refine r_getA (kf := 55) (pc' := 191) hK rt_55 dX12_waits_188 kX12_118 rfl (by decide) (by decide) rfl ?_
    refine z_iload (pc' := 193) dX12_waits_191 rfl rfl ?_
    obtain ⟨h1, h⟩ := h
    refine r_iald (pc' := 194) hK rt_55 rfl dX12_waits_193 rfl h1 ?_
    refine z_isub (pc' := 195) dX12_waits_194 rfl rfl ?_
    refine z_istore (pc' := 197) dX12_waits_195 (by decide) rfl ?_
    refine z_iload (pc' := 199) dX12_waits_197 rfl rfl ?_
    refine z_istore (pc' := 201) dX12_waits_199 (by decide) rfl ?_
    exact z_dr (ls' := [some (.ref (zp 416 0)), none, some (.int x2), some (.int x3), some (.int x4), some (.int x5), none, some (.int (y3 - (S1 1155 (S 1182 ((x3 - x4) + x5).toNatClampNeg).toNatClampNeg))), some (.int x5)]) ⟨rfl, rfl, rfl, rfl, rfl, rfl, rfl, trivial⟩ h
def rwp_X12_waits_201 (E : ZE) (l : Launch) (d b : Nat) (A G : ZG) (Q : Option Value → ZS9 → Prop) (k : Nat) (x2 : Int32) (x3 : Int32) (x4 : Int32) (x5 : Int32) (x7 : Int32) (x8 : Int32) (S : ZS9) : Prop :=
  ((x8 ≤ 0 →
    vp_in x8 120 ∧
    ∀ S1, S1 = zup S 1181 x8.toNatClampNeg x7 →
    zW E l mX12_waits d b A (rQ G Q) k 159 [some (.ref (zp 416 0)), none, some (.int x2), some (.int x3), some (.int x4), some (.int (x5 + 1)), none, none, none] [] (zput G S1)) ∧
  (¬ (x8 ≤ 0) →
    vp_in (x8 - 1) 120 ∧
    (((S 1181 (x8 - 1).toNatClampNeg) ≤ x7 →
      vp_in x8 120 ∧
      ∀ S2, S2 = zup S 1181 x8.toNatClampNeg x7 →
      zW E l mX12_waits d b A (rQ G Q) k 159 [some (.ref (zp 416 0)), none, some (.int x2), some (.int x3), some (.int x4), some (.int (x5 + 1)), none, none, none] [] (zput G S2)) ∧
    (¬ ((S 1181 (x8 - 1).toNatClampNeg) ≤ x7) →
      vp_in (x8 - 1) 120 ∧
      vp_in x8 120 ∧
      ∀ S3, S3 = zup S 1181 x8.toNatClampNeg (S 1181 (x8 - 1).toNatClampNeg) →
      zW E l mX12_waits d b A (rQ G Q) k 201 [some (.ref (zp 416 0)), none, some (.int x2), some (.int x3), some (.int x4), some (.int x5), none, some (.int x7), some (.int (x8 + (-1)))] [] (zput G S3)))))
theorem rwpt_X12_waits_201 {E : ZE} {l : Launch} {d b : Nat} {A G : ZG} {Q : Option Value → ZS9 → Prop} {k : Nat} {x2 : Int32} {x3 : Int32} {x4 : Int32} {x5 : Int32} {x7 : Int32} {x8 : Int32} {S : ZS9} (hK : RK G) (h : rwp_X12_waits_201 E l d b A G Q k x2 x3 x4 x5 x7 x8 S) : zW E l mX12_waits d b A (rQ G Q) k 201 [some (.ref (zp 416 0)), none, some (.int x2), some (.int x3), some (.int x4), some (.int x5), none, some (.int x7), some (.int x8)] [] (zput G S) := by
  unfold rwp_X12_waits_201 at h
  refine z_iload (pc' := 203) dX12_waits_201 rfl rfl ?_
  refine z_if_le (pt := 242) (pc' := 206) dX12_waits_203 (by decide) rfl (fun hc => ?_) (fun hc => ?_)
  · have h := h.1 hc
    refine z_aload_n (pc' := 243) dX12_waits_242 rfl rfl ?_
    refine r_getA (kf := 81) (pc' := 246) hK rt_81 dX12_waits_243 kX12_172 rfl (by decide) (by decide) rfl ?_
    refine z_iload (pc' := 248) dX12_waits_246 rfl rfl ?_
    refine z_iload (pc' := 250) dX12_waits_248 rfl rfl ?_
    obtain ⟨h1, h⟩ := h
    obtain ⟨S1, hG⟩ : ∃ z, z = zup S 1181 x8.toNatClampNeg x7 := ⟨_, rfl⟩
    have h := h _ hG
    refine r_iast (pc' := 251) hK rt_81 rfl dX12_waits_250 rfl h1  ?_
    refine r_st hG ?_
    refine z_iinc (y := x5 + 1) (pc' := 254) dX12_waits_251 rfl (zinc_1 _) (by decide) rfl ?_
    refine z_goto (pc' := 159) dX12_waits_254 (by decide) ?_
    exact z_dr (ls' := [some (.ref (zp 416 0)), none, some (.int x2), some (.int x3), some (.int x4), some (.int (x5 + 1)), none, none, none]) ⟨rfl, rfl, rfl, rfl, rfl, trivial⟩ h
  · have h := h.2 hc
    refine z_aload_n (pc' := 207) dX12_waits_206 rfl rfl ?_
    refine r_getA (kf := 81) (pc' := 210) hK rt_81 dX12_waits_207 kX12_172 rfl (by decide) (by decide) rfl ?_
    refine z_iload (pc' := 212) dX12_waits_210 rfl rfl ?_
    refine z_iconst (x := 1) (pc' := 213) dX12_waits_212 (by decide) rfl ?_
    refine z_isub (pc' := 214) dX12_waits_213 rfl rfl ?_
    obtain ⟨h1, h⟩ := h
    refine r_iald (pc' := 215) hK rt_81 rfl dX12_waits_214 rfl h1 ?_
    refine z_iload (pc' := 217) dX12_waits_215 rfl rfl ?_
    refine z_icmp_le (pt := 242) (pc' := 220) dX12_waits_217 (by decide) rfl (fun hc => ?_) (fun hc => ?_)
    · have h := h.1 hc
      refine z_aload_n (pc' := 243) dX12_waits_242 rfl rfl ?_
      refine r_getA (kf := 81) (pc' := 246) hK rt_81 dX12_waits_243 kX12_172 rfl (by decide) (by decide) rfl ?_
      refine z_iload (pc' := 248) dX12_waits_246 rfl rfl ?_
      refine z_iload (pc' := 250) dX12_waits_248 rfl rfl ?_
      obtain ⟨h1, h⟩ := h
      obtain ⟨S2, hG⟩ : ∃ z, z = zup S 1181 x8.toNatClampNeg x7 := ⟨_, rfl⟩
      have h := h _ hG
      refine r_iast (pc' := 251) hK rt_81 rfl dX12_waits_250 rfl h1  ?_
      refine r_st hG ?_
      refine z_iinc (y := x5 + 1) (pc' := 254) dX12_waits_251 rfl (zinc_1 _) (by decide) rfl ?_
      refine z_goto (pc' := 159) dX12_waits_254 (by decide) ?_
      exact z_dr (ls' := [some (.ref (zp 416 0)), none, some (.int x2), some (.int x3), some (.int x4), some (.int (x5 + 1)), none, none, none]) ⟨rfl, rfl, rfl, rfl, rfl, trivial⟩ h
    · have h := h.2 hc
      refine z_aload_n (pc' := 221) dX12_waits_220 rfl rfl ?_
      refine r_getA (kf := 81) (pc' := 224) hK rt_81 dX12_waits_221 kX12_172 rfl (by decide) (by decide) rfl ?_
      refine z_iload (pc' := 226) dX12_waits_224 rfl rfl ?_
      refine z_aload_n (pc' := 227) dX12_waits_226 rfl rfl ?_
      refine r_getA (kf := 81) (pc' := 230) hK rt_81 dX12_waits_227 kX12_172 rfl (by decide) (by decide) rfl ?_
      refine z_iload (pc' := 232) dX12_waits_230 rfl rfl ?_
      refine z_iconst (x := 1) (pc' := 233) dX12_waits_232 (by decide) rfl ?_
      refine z_isub (pc' := 234) dX12_waits_233 rfl rfl ?_
      obtain ⟨h1, h⟩ := h
      refine r_iald (pc' := 235) hK rt_81 rfl dX12_waits_234 rfl h1 ?_
      obtain ⟨h1, h⟩ := h
      obtain ⟨S3, hG⟩ : ∃ z, z = zup S 1181 x8.toNatClampNeg (S 1181 (x8 - 1).toNatClampNeg) := ⟨_, rfl⟩
      have h := h _ hG
      refine r_iast (pc' := 236) hK rt_81 rfl dX12_waits_235 rfl h1  ?_
      refine r_st hG ?_
      refine z_iinc (y := x8 + (-1)) (pc' := 239) dX12_waits_236 rfl (zinc_m1 _) (by decide) rfl ?_
      refine z_goto (pc' := 201) dX12_waits_239 (by decide) ?_
      exact z_dr (ls' := [some (.ref (zp 416 0)), none, some (.int x2), some (.int x3), some (.int x4), some (.int x5), none, some (.int x7), some (.int (x8 + (-1)))]) ⟨rfl, rfl, rfl, rfl, rfl, rfl, rfl, trivial⟩ h
def rwp_X12_word_0 (E : ZE) (l : Launch) (d b : Nat) (A G : ZG) (Q : Option Value → ZS9 → Prop) (k : Nat)  (S : ZS9) : Prop :=
  rcV E l mX12_blanksBetween d [] S k (fun S1 k2 =>
  zW E l mX12_word d b A (rQ G Q) k2 4 [some (.ref (zp 416 0))] [] (zput G S1))
theorem rwpt_X12_word_0 {E : ZE} {l : Launch} {d b : Nat} {A G : ZG} {Q : Option Value → ZS9 → Prop} {k : Nat}  {S : ZS9} (hK : RK G) (h : rwp_X12_word_0 E l d b A G Q k  S) : zW E l mX12_word d b A (rQ G Q) k 0 [some (.ref (zp 416 0))] [] (zput G S) := by
  unfold rwp_X12_word_0 at h
  refine z_aload_n (pc' := 1) dX12_word_0 rfl rfl ?_
  refine r_callV (Y := mX12_blanksBetween) (n := 0) (as := []) (st := []) (pc' := 4) h hK dX12_word_1 kX12_197 vX12_blanksBetween rfl rfl rfl (Nat.le_of_ble_eq_true rfl) (fun S1 k2 h => ?_)
  exact z_dr (ls' := [some (.ref (zp 416 0))]) ⟨rfl, trivial⟩ h
def rwp_X12_word_4 (E : ZE) (l : Launch) (d b : Nat) (A G : ZG) (Q : Option Value → ZS9 → Prop) (k : Nat)  (S : ZS9) : Prop :=
  rcI E l mX12_isAt d [.int 97, .int 122] S k (fun y3 S1 k2 =>
  ((y3 = 0 →
    Q none S1) ∧
  (¬ (y3 = 0) →
    ∀ S4, S4 = zup S1 416 4 ((S1 416 4) + 1) →
    zW E l mX12_word d b A (rQ G Q) k2 4 [some (.ref (zp 416 0))] [] (zput G S4))))
theorem rwpt_X12_word_4 {E : ZE} {l : Launch} {d b : Nat} {A G : ZG} {Q : Option Value → ZS9 → Prop} {k : Nat}  {S : ZS9} (hK : RK G) (h : rwp_X12_word_4 E l d b A G Q k  S) : zW E l mX12_word d b A (rQ G Q) k 4 [some (.ref (zp 416 0))] [] (zput G S) := by
  unfold rwp_X12_word_4 at h
  refine z_aload_n (pc' := 5) dX12_word_4 rfl rfl ?_
  refine z_bipush (x := 97) (pc' := 7) dX12_word_5 (by decide) rfl ?_
  refine z_bipush (x := 122) (pc' := 9) dX12_word_7 (by decide) rfl ?_
  refine r_callI (Y := mX12_isAt) (n := 2) (as := [.int 97, .int 122]) (st := []) (pc' := 12) h hK dX12_word_9 kX12_190 vX12_isAt rfl rfl rfl (Nat.le_of_ble_eq_true rfl) (fun y3 S1 k2 h => ?_)
  refine z_if_eq (pt := 28) (pc' := 15) dX12_word_12 (by decide) rfl (fun hc => ?_) (fun hc => ?_)
  · have h := h.1 hc
    exact z_vret dX12_word_28 rfl ⟨_, _, rfl, rfl, h⟩
  · have h := h.2 hc
    refine z_aload_n (pc' := 16) dX12_word_15 rfl rfl ?_
    refine z_dup (pc' := 17) dX12_word_16 rfl rfl ?_
    refine r_getI (kf := 4) (pc' := 20) hK dX12_word_17 kX12_187 rfl (by decide) (by decide) rfl ?_
    refine z_iconst (x := 1) (pc' := 21) dX12_word_20 (by decide) rfl ?_
    refine z_iadd (pc' := 22) dX12_word_21 rfl rfl ?_
    obtain ⟨S4, hG⟩ : ∃ z, z = zup S1 416 4 ((S1 416 4) + 1) := ⟨_, rfl⟩
    have h := h _ hG
    refine r_putI (kf := 4) (pc' := 25) hK dX12_word_22 kX12_187 rfl (by decide) (by decide) rfl rfl (zok_int _) ?_
    refine r_st hG ?_
    refine z_goto (pc' := 4) dX12_word_25 (by decide) ?_
    exact z_dr (ls' := [some (.ref (zp 416 0))]) ⟨rfl, trivial⟩ h
def rwp_X12_works_0 (E : ZE) (l : Launch) (d b : Nat) (A G : ZG) (Q : Option Value → ZS9 → Prop) (k : Nat) (x1 : Int32) (x2 : Int32) (S : ZS9) : Prop :=
  rcI E l mX12_unitsOf d [.int x1, .int (S 416 1)] S k (fun y3 S1 k2 =>
  ((¬ x1 = 0 →
    rcV E l mX12_lines d [.int x1, .int x2] S1 k2 (fun S4 k5 =>
    zW E l mX12_works d b A (rQ G Q) k5 34 [some (.ref (zp 416 0)), some (.int x1), none, some (.int y3), some (.int 0), none] [] (zput G S4))) ∧
  (¬ (¬ x1 = 0) →
    scI E l mJ9_max_7cf53 d [.int 0, .int (y3 - (S1 416 74))] (fun y6 =>
    rcV E l mX12_lines d [.int x1, .int x2] S1 k2 (fun S7 k8 =>
    zW E l mX12_works d b A (rQ G Q) k8 34 [some (.ref (zp 416 0)), some (.int x1), none, some (.int y6), some (.int 0), none] [] (zput G S7))))))
theorem rwpt_X12_works_0 {E : ZE} {l : Launch} {d b : Nat} {A G : ZG} {Q : Option Value → ZS9 → Prop} {k : Nat} {x1 : Int32} {x2 : Int32} {S : ZS9} (hK : RK G) (h : rwp_X12_works_0 E l d b A G Q k x1 x2 S) : zW E l mX12_works d b A (rQ G Q) k 0 [some (.ref (zp 416 0)), some (.int x1), some (.int x2), none, none, none] [] (zput G S) := by
  unfold rwp_X12_works_0 at h
  refine z_aload_n (pc' := 1) dX12_works_0 rfl rfl ?_
  refine z_iload_n (pc' := 2) dX12_works_1 rfl rfl ?_
  refine z_aload_n (pc' := 3) dX12_works_2 rfl rfl ?_
  refine r_getI (kf := 1) (pc' := 6) hK dX12_works_3 kX12_314 rfl (by decide) (by decide) rfl ?_
  refine r_callI (Y := mX12_unitsOf) (n := 2) (as := [.int x1, .int (S 416 1)]) (st := []) (pc' := 9) h hK dX12_works_6 kX12_400 vX12_unitsOf rfl rfl rfl (Nat.le_of_ble_eq_true rfl) (fun y3 S1 k2 h => ?_)
  refine z_istore_n (pc' := 10) dX12_works_9 (by decide) rfl ?_
  refine z_iload_n (pc' := 11) dX12_works_10 rfl rfl ?_
  refine z_if_ne (pt := 25) (pc' := 14) dX12_works_11 (by decide) rfl (fun hc => ?_) (fun hc => ?_)
  · have h := h.1 hc
    refine z_aload_n (pc' := 26) dX12_works_25 rfl rfl ?_
    refine z_iload_n (pc' := 27) dX12_works_26 rfl rfl ?_
    refine z_iload_n (pc' := 28) dX12_works_27 rfl rfl ?_
    refine r_callV (Y := mX12_lines) (n := 2) (as := [.int x1, .int x2]) (st := []) (pc' := 31) h hK dX12_works_28 kX12_468 vX12_lines rfl rfl rfl (Nat.le_of_ble_eq_true rfl) (fun S4 k5 h => ?_)
    refine z_iconst (x := 0) (pc' := 32) dX12_works_31 (by decide) rfl ?_
    refine z_istore (pc' := 34) dX12_works_32 (by decide) rfl ?_
    exact z_dr (ls' := [some (.ref (zp 416 0)), some (.int x1), none, some (.int y3), some (.int 0), none]) ⟨rfl, rfl, rfl, rfl, trivial⟩ h
  · have h := h.2 hc
    refine z_iconst (x := 0) (pc' := 15) dX12_works_14 (by decide) rfl ?_
    refine z_iload_n (pc' := 16) dX12_works_15 rfl rfl ?_
    refine z_aload_n (pc' := 17) dX12_works_16 rfl rfl ?_
    refine r_getI (kf := 74) (pc' := 20) hK dX12_works_17 kX12_465 rfl (by decide) (by decide) rfl ?_
    refine z_isub (pc' := 21) dX12_works_20 rfl rfl ?_
    refine r_callSI (Y := mJ9_max_7cf53) (n := 2) (as := [.int 0, .int (y3 - (S1 416 74))]) (st := []) (pc' := 24) h dX12_works_21 kX12_366 sJ9_max_7cf53 rfl rfl (Nat.le_of_ble_eq_true rfl) (fun y6 h => ?_)
    refine z_istore_n (pc' := 25) dX12_works_24 (by decide) rfl ?_
    refine z_aload_n (pc' := 26) dX12_works_25 rfl rfl ?_
    refine z_iload_n (pc' := 27) dX12_works_26 rfl rfl ?_
    refine z_iload_n (pc' := 28) dX12_works_27 rfl rfl ?_
    refine r_callV (Y := mX12_lines) (n := 2) (as := [.int x1, .int x2]) (st := []) (pc' := 31) h hK dX12_works_28 kX12_468 vX12_lines rfl rfl rfl (Nat.le_of_ble_eq_true rfl) (fun S7 k8 h => ?_)
    refine z_iconst (x := 0) (pc' := 32) dX12_works_31 (by decide) rfl ?_
    refine z_istore (pc' := 34) dX12_works_32 (by decide) rfl ?_
    exact z_dr (ls' := [some (.ref (zp 416 0)), some (.int x1), none, some (.int y6), some (.int 0), none]) ⟨rfl, rfl, rfl, rfl, trivial⟩ h
def rwp_X12_works_34 (E : ZE) (l : Launch) (d b : Nat) (A G : ZG) (Q : Option Value → ZS9 → Prop) (k : Nat) (x1 : Int32) (x3 : Int32) (x4 : Int32) (S : ZS9) : Prop :=
  (((S 416 78) ≤ x4 →
    ∀ S1, S1 = zup S 416 76 ((S 416 76) + x3) →
    Q none S1) ∧
  (¬ ((S 416 78) ≤ x4) →
    vp_in x4 120 ∧
    rcI E l mX12_takes d [.int x1, .int (S 1177 x4.toNatClampNeg)] S k (fun y4 S2 k3 =>
    ((x3 < y4 →
      ∀ S5, S5 = zup S2 416 76 ((S2 416 76) + x3) →
      Q none S5) ∧
    (¬ (x3 < y4) →
      ((¬ x1 = 3 →
        vp_in x4 120 ∧
        rcV E l mX12_does d [.int x1, .int (S2 1177 x4.toNatClampNeg)] S2 k3 (fun S6 k7 =>
        zW E l mX12_works d b A (rQ G Q) k7 34 [some (.ref (zp 416 0)), some (.int x1), none, some (.int (x3 - y4)), some (.int (x4 + 1)), none] [] (zput G S6))) ∧
      (¬ (¬ x1 = 3) →
        rcI E l mX12_canPrint d [] S2 k3 (fun y10 S8 k9 =>
        ((¬ y10 = 0 →
          vp_in x4 120 ∧
          rcV E l mX12_does d [.int x1, .int (S8 1177 x4.toNatClampNeg)] S8 k9 (fun S11 k12 =>
          zW E l mX12_works d b A (rQ G Q) k12 34 [some (.ref (zp 416 0)), some (.int x1), none, some (.int (x3 - y4)), some (.int (x4 + 1)), none] [] (zput G S11))) ∧
        (¬ (¬ y10 = 0) →
          ∀ S13, S13 = zup S8 416 76 ((S8 416 76) + x3) →
          Q none S13))))))))))
theorem rwpt_X12_works_34 {E : ZE} {l : Launch} {d b : Nat} {A G : ZG} {Q : Option Value → ZS9 → Prop} {k : Nat} {x1 : Int32} {x3 : Int32} {x4 : Int32} {S : ZS9} (hK : RK G) (h : rwp_X12_works_34 E l d b A G Q k x1 x3 x4 S) : zW E l mX12_works d b A (rQ G Q) k 34 [some (.ref (zp 416 0)), some (.int x1), none, some (.int x3), some (.int x4), none] [] (zput G S) := by
  unfold rwp_X12_works_34 at h
  refine z_iload (pc' := 36) dX12_works_34 rfl rfl ?_
  refine z_aload_n (pc' := 37) dX12_works_36 rfl rfl ?_
  refine r_getI (kf := 78) (pc' := 40) hK dX12_works_37 kX12_447 rfl (by decide) (by decide) rfl ?_
  refine z_icmp_ge (pt := 101) (pc' := 43) dX12_works_40 (by decide) rfl (fun hc => ?_) (fun hc => ?_)
  · have h := h.1 hc
    refine z_aload_n (pc' := 102) dX12_works_101 rfl rfl ?_
    refine z_dup (pc' := 103) dX12_works_102 rfl rfl ?_
    refine r_getI (kf := 76) (pc' := 106) hK dX12_works_103 kX12_481 rfl (by decide) (by decide) rfl ?_
    refine z_iload_n (pc' := 107) dX12_works_106 rfl rfl ?_
    refine z_iadd (pc' := 108) dX12_works_107 rfl rfl ?_
    obtain ⟨S1, hG⟩ : ∃ z, z = zup S 416 76 ((S 416 76) + x3) := ⟨_, rfl⟩
    have h := h _ hG
    refine r_putI (kf := 76) (pc' := 111) hK dX12_works_108 kX12_481 rfl (by decide) (by decide) rfl rfl (zok_int _) ?_
    refine r_st hG ?_
    exact z_vret dX12_works_111 rfl ⟨_, _, rfl, rfl, h⟩
  · have h := h.2 hc
    refine z_aload_n (pc' := 44) dX12_works_43 rfl rfl ?_
    refine z_iload_n (pc' := 45) dX12_works_44 rfl rfl ?_
    refine z_aload_n (pc' := 46) dX12_works_45 rfl rfl ?_
    refine r_getA (kf := 77) (pc' := 49) hK rt_77 dX12_works_46 kX12_163 rfl (by decide) (by decide) rfl ?_
    refine z_iload (pc' := 51) dX12_works_49 rfl rfl ?_
    obtain ⟨h1, h⟩ := h
    refine r_iald (pc' := 52) hK rt_77 rfl dX12_works_51 rfl h1 ?_
    refine r_callI (Y := mX12_takes) (n := 2) (as := [.int x1, .int (S 1177 x4.toNatClampNeg)]) (st := []) (pc' := 55) h hK dX12_works_52 kX12_472 vX12_takes rfl rfl rfl (Nat.le_of_ble_eq_true rfl) (fun y4 S2 k3 h => ?_)
    refine z_istore (pc' := 57) dX12_works_55 (by decide) rfl ?_
    refine z_iload (pc' := 59) dX12_works_57 rfl rfl ?_
    refine z_iload_n (pc' := 60) dX12_works_59 rfl rfl ?_
    refine z_icmp_gt (pt := 101) (pc' := 63) dX12_works_60 (by decide) rfl (fun hc => ?_) (fun hc => ?_)
    · have h := h.1 hc
      refine z_aload_n (pc' := 102) dX12_works_101 rfl rfl ?_
      refine z_dup (pc' := 103) dX12_works_102 rfl rfl ?_
      refine r_getI (kf := 76) (pc' := 106) hK dX12_works_103 kX12_481 rfl (by decide) (by decide) rfl ?_
      refine z_iload_n (pc' := 107) dX12_works_106 rfl rfl ?_
      refine z_iadd (pc' := 108) dX12_works_107 rfl rfl ?_
      obtain ⟨S5, hG⟩ : ∃ z, z = zup S2 416 76 ((S2 416 76) + x3) := ⟨_, rfl⟩
      have h := h _ hG
      refine r_putI (kf := 76) (pc' := 111) hK dX12_works_108 kX12_481 rfl (by decide) (by decide) rfl rfl (zok_int _) ?_
      refine r_st hG ?_
      exact z_vret dX12_works_111 rfl ⟨_, _, rfl, rfl, h⟩
    · have h := h.2 hc
      refine z_iload_n (pc' := 64) dX12_works_63 rfl rfl ?_
      refine z_iconst (x := 3) (pc' := 65) dX12_works_64 (by decide) rfl ?_
      refine z_icmp_ne (pt := 78) (pc' := 68) dX12_works_65 (by decide) rfl (fun hc => ?_) (fun hc => ?_)
      · have h := h.1 hc
        refine z_iload_n (pc' := 79) dX12_works_78 rfl rfl ?_
        refine z_iload (pc' := 81) dX12_works_79 rfl rfl ?_
        refine z_isub (pc' := 82) dX12_works_81 rfl rfl ?_
        refine z_istore_n (pc' := 83) dX12_works_82 (by decide) rfl ?_
        refine z_aload_n (pc' := 84) dX12_works_83 rfl rfl ?_
        refine z_iload_n (pc' := 85) dX12_works_84 rfl rfl ?_
        refine z_aload_n (pc' := 86) dX12_works_85 rfl rfl ?_
        refine r_getA (kf := 77) (pc' := 89) hK rt_77 dX12_works_86 kX12_163 rfl (by decide) (by decide) rfl ?_
        refine z_iload (pc' := 91) dX12_works_89 rfl rfl ?_
        obtain ⟨h1, h⟩ := h
        refine r_iald (pc' := 92) hK rt_77 rfl dX12_works_91 rfl h1 ?_
        refine r_callV (Y := mX12_does) (n := 2) (as := [.int x1, .int (S2 1177 x4.toNatClampNeg)]) (st := []) (pc' := 95) h hK dX12_works_92 kX12_478 vX12_does rfl rfl rfl (Nat.le_of_ble_eq_true rfl) (fun S6 k7 h => ?_)
        refine z_iinc (y := x4 + 1) (pc' := 98) dX12_works_95 rfl (zinc_1 _) (by decide) rfl ?_
        refine z_goto (pc' := 34) dX12_works_98 (by decide) ?_
        exact z_dr (ls' := [some (.ref (zp 416 0)), some (.int x1), none, some (.int (x3 - y4)), some (.int (x4 + 1)), none]) ⟨rfl, rfl, rfl, rfl, trivial⟩ h
      · have h := h.2 hc
        refine z_aload_n (pc' := 69) dX12_works_68 rfl rfl ?_
        refine r_callI (Y := mX12_canPrint) (n := 0) (as := []) (st := []) (pc' := 72) h hK dX12_works_69 kX12_475 vX12_canPrint rfl rfl rfl (Nat.le_of_ble_eq_true rfl) (fun y10 S8 k9 h => ?_)
        refine z_if_ne (pt := 78) (pc' := 75) dX12_works_72 (by decide) rfl (fun hc => ?_) (fun hc => ?_)
        · have h := h.1 hc
          refine z_iload_n (pc' := 79) dX12_works_78 rfl rfl ?_
          refine z_iload (pc' := 81) dX12_works_79 rfl rfl ?_
          refine z_isub (pc' := 82) dX12_works_81 rfl rfl ?_
          refine z_istore_n (pc' := 83) dX12_works_82 (by decide) rfl ?_
          refine z_aload_n (pc' := 84) dX12_works_83 rfl rfl ?_
          refine z_iload_n (pc' := 85) dX12_works_84 rfl rfl ?_
          refine z_aload_n (pc' := 86) dX12_works_85 rfl rfl ?_
          refine r_getA (kf := 77) (pc' := 89) hK rt_77 dX12_works_86 kX12_163 rfl (by decide) (by decide) rfl ?_
          refine z_iload (pc' := 91) dX12_works_89 rfl rfl ?_
          obtain ⟨h1, h⟩ := h
          refine r_iald (pc' := 92) hK rt_77 rfl dX12_works_91 rfl h1 ?_
          refine r_callV (Y := mX12_does) (n := 2) (as := [.int x1, .int (S8 1177 x4.toNatClampNeg)]) (st := []) (pc' := 95) h hK dX12_works_92 kX12_478 vX12_does rfl rfl rfl (Nat.le_of_ble_eq_true rfl) (fun S11 k12 h => ?_)
          refine z_iinc (y := x4 + 1) (pc' := 98) dX12_works_95 rfl (zinc_1 _) (by decide) rfl ?_
          refine z_goto (pc' := 34) dX12_works_98 (by decide) ?_
          exact z_dr (ls' := [some (.ref (zp 416 0)), some (.int x1), none, some (.int (x3 - y4)), some (.int (x4 + 1)), none]) ⟨rfl, rfl, rfl, rfl, trivial⟩ h
        · have h := h.2 hc
          refine z_goto (pc' := 101) dX12_works_75 (by decide) ?_
          refine z_aload_n (pc' := 102) dX12_works_101 rfl rfl ?_
          refine z_dup (pc' := 103) dX12_works_102 rfl rfl ?_
          refine r_getI (kf := 76) (pc' := 106) hK dX12_works_103 kX12_481 rfl (by decide) (by decide) rfl ?_
          refine z_iload_n (pc' := 107) dX12_works_106 rfl rfl ?_
          refine z_iadd (pc' := 108) dX12_works_107 rfl rfl ?_
          obtain ⟨S13, hG⟩ : ∃ z, z = zup S8 416 76 ((S8 416 76) + x3) := ⟨_, rfl⟩
          have h := h _ hG
          refine r_putI (kf := 76) (pc' := 111) hK dX12_works_108 kX12_481 rfl (by decide) (by decide) rfl rfl (zok_int _) ?_
          refine r_st hG ?_
          exact z_vret dX12_works_111 rfl ⟨_, _, rfl, rfl, h⟩
