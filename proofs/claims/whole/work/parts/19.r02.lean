/-! what the reference's methods come to, in its numbers -/
def rwp_X12_isAt_0 (E : ZE) (l : Launch) (d b : Nat) (A G : ZG) (Q : Option Value → ZS9 → Prop) (k : Nat) (x1 : Int32) (x2 : Int32) (S : ZS9) : Prop :=
  (((S 416 5) ≤ (S 416 4) →
    Q (some (.int 0)) S) ∧
  (¬ ((S 416 5) ≤ (S 416 4)) →
    vp_in (S 416 4) 400 ∧
    (((S 1602 (S 416 4).toNatClampNeg) < x1 →
      Q (some (.int 0)) S) ∧
    (¬ ((S 1602 (S 416 4).toNatClampNeg) < x1) →
      vp_in (S 416 4) 400 ∧
      ((x2 < (S 1602 (S 416 4).toNatClampNeg) →
        Q (some (.int 0)) S) ∧
      (¬ (x2 < (S 1602 (S 416 4).toNatClampNeg)) →
        Q (some (.int 1)) S))))))
theorem rwpt_X12_isAt_0 {E : ZE} {l : Launch} {d b : Nat} {A G : ZG} {Q : Option Value → ZS9 → Prop} {k : Nat} {x1 : Int32} {x2 : Int32} {S : ZS9} (hK : RK G) (h : rwp_X12_isAt_0 E l d b A G Q k x1 x2 S) : zW E l mX12_isAt d b A (rQ G Q) k 0 [some (.ref (zp 416 0)), some (.int x1), some (.int x2)] [] (zput G S) := by
  unfold rwp_X12_isAt_0 at h
  refine z_aload_n (pc' := 1) dX12_isAt_0 rfl rfl ?_
  refine r_getI (kf := 4) (pc' := 4) hK dX12_isAt_1 kX12_187 rfl (by decide) (by decide) rfl ?_
  refine z_aload_n (pc' := 5) dX12_isAt_4 rfl rfl ?_
  refine r_getI (kf := 5) (pc' := 8) hK dX12_isAt_5 kX12_184 rfl (by decide) (by decide) rfl ?_
  refine z_icmp_ge (pt := 41) (pc' := 11) dX12_isAt_8 (by decide) rfl (fun hc => ?_) (fun hc => ?_)
  · have h := h.1 hc
    refine z_iconst (x := 0) (pc' := 42) dX12_isAt_41 (by decide) rfl ?_
    exact z_zret (ty := .boolean) dX12_isAt_42 rfl (by decide) ⟨_, _, rfl, rfl, h⟩
  · have h := h.2 hc
    refine z_aload_n (pc' := 12) dX12_isAt_11 rfl rfl ?_
    refine r_getA (kf := 2) (pc' := 15) hK rt_2 dX12_isAt_12 kX12_9 rfl (by decide) (by decide) rfl ?_
    refine z_aload_n (pc' := 16) dX12_isAt_15 rfl rfl ?_
    refine r_getI (kf := 4) (pc' := 19) hK dX12_isAt_16 kX12_187 rfl (by decide) (by decide) rfl ?_
    obtain ⟨h1, h⟩ := h
    refine r_bald (pc' := 20) hK rt_2 rfl dX12_isAt_19 rfl h1 ?_
    refine z_iload_n (pc' := 21) dX12_isAt_20 rfl rfl ?_
    refine z_icmp_lt (pt := 41) (pc' := 24) dX12_isAt_21 (by decide) rfl (fun hc => ?_) (fun hc => ?_)
    · have h := h.1 hc
      refine z_iconst (x := 0) (pc' := 42) dX12_isAt_41 (by decide) rfl ?_
      exact z_zret (ty := .boolean) dX12_isAt_42 rfl (by decide) ⟨_, _, rfl, rfl, h⟩
    · have h := h.2 hc
      refine z_aload_n (pc' := 25) dX12_isAt_24 rfl rfl ?_
      refine r_getA (kf := 2) (pc' := 28) hK rt_2 dX12_isAt_25 kX12_9 rfl (by decide) (by decide) rfl ?_
      refine z_aload_n (pc' := 29) dX12_isAt_28 rfl rfl ?_
      refine r_getI (kf := 4) (pc' := 32) hK dX12_isAt_29 kX12_187 rfl (by decide) (by decide) rfl ?_
      obtain ⟨h1, h⟩ := h
      refine r_bald (pc' := 33) hK rt_2 rfl dX12_isAt_32 rfl h1 ?_
      refine z_iload_n (pc' := 34) dX12_isAt_33 rfl rfl ?_
      refine z_icmp_gt (pt := 41) (pc' := 37) dX12_isAt_34 (by decide) rfl (fun hc => ?_) (fun hc => ?_)
      · have h := h.1 hc
        refine z_iconst (x := 0) (pc' := 42) dX12_isAt_41 (by decide) rfl ?_
        exact z_zret (ty := .boolean) dX12_isAt_42 rfl (by decide) ⟨_, _, rfl, rfl, h⟩
      · have h := h.2 hc
        refine z_iconst (x := 1) (pc' := 38) dX12_isAt_37 (by decide) rfl ?_
        refine z_goto (pc' := 42) dX12_isAt_38 (by decide) ?_
        exact z_zret (ty := .boolean) dX12_isAt_42 rfl (by decide) ⟨_, _, rfl, rfl, h⟩
def rwp_X12_isWord_0 (E : ZE) (l : Launch) (d b : Nat) (A G : ZG) (Q : Option Value → ZS9 → Prop) (k : Nat) (q1 : Nat) (S : ZS9) : Prop :=
  ∃ n1, n1 < 32 ∧ q1 = zp 1000 n1 ∧ 4 ≤ d ∧
  ((¬ ((S 416 4) - (S 416 6)) = (Int32.ofNat (zstl n1)) →
    zW E l mX12_isWord d b A (rQ G Q) k 24 [some (.ref (zp 416 0)), some (.ref q1), some (.int 0), some (.int 0)] [] (zput G S)) ∧
  (¬ (¬ ((S 416 4) - (S 416 6)) = (Int32.ofNat (zstl n1))) →
    zW E l mX12_isWord d b A (rQ G Q) k 24 [some (.ref (zp 416 0)), some (.ref q1), some (.int 1), some (.int 0)] [] (zput G S)))
theorem rwpt_X12_isWord_0 {E : ZE} {l : Launch} {d b : Nat} {A G : ZG} {Q : Option Value → ZS9 → Prop} {k : Nat} {q1 : Nat} {S : ZS9} (hK : RK G) (h : rwp_X12_isWord_0 E l d b A G Q k q1 S) : zW E l mX12_isWord d b A (rQ G Q) k 0 [some (.ref (zp 416 0)), some (.ref q1), none, none] [] (zput G S) := by
  unfold rwp_X12_isWord_0 at h
  refine z_aload_n (pc' := 1) dX12_isWord_0 rfl rfl ?_
  refine r_getI (kf := 4) (pc' := 4) hK dX12_isWord_1 kX12_187 rfl (by decide) (by decide) rfl ?_
  refine z_aload_n (pc' := 5) dX12_isWord_4 rfl rfl ?_
  refine r_getI (kf := 6) (pc' := 8) hK dX12_isWord_5 kX12_194 rfl (by decide) (by decide) rfl ?_
  refine z_isub (pc' := 9) dX12_isWord_8 rfl rfl ?_
  refine z_aload_n (pc' := 10) dX12_isWord_9 rfl rfl ?_
  obtain ⟨n1, h1, h2, h3, h⟩ := h
  refine z_strlen (n := n1) (st := [.int ((S 416 4) - (S 416 6))]) (pc' := 13) dX12_isWord_10 kX12_200 rfl h1 h2 (hK.put.2.2 _ h1) h3 (Nat.le_of_ble_eq_true rfl) ?_
  refine z_icmp_ne (pt := 20) (pc' := 16) dX12_isWord_13 (by decide) rfl (fun hc => ?_) (fun hc => ?_)
  · have h := h.1 hc
    refine z_iconst (x := 0) (pc' := 21) dX12_isWord_20 (by decide) rfl ?_
    refine z_istore_n (pc' := 22) dX12_isWord_21 (by decide) rfl ?_
    refine z_iconst (x := 0) (pc' := 23) dX12_isWord_22 (by decide) rfl ?_
    refine z_istore_n (pc' := 24) dX12_isWord_23 (by decide) rfl ?_
    exact z_dr (ls' := [some (.ref (zp 416 0)), some (.ref q1), some (.int 0), some (.int 0)]) ⟨rfl, rfl, rfl, rfl, trivial⟩ h
  · have h := h.2 hc
    refine z_iconst (x := 1) (pc' := 17) dX12_isWord_16 (by decide) rfl ?_
    refine z_goto (pc' := 21) dX12_isWord_17 (by decide) ?_
    refine z_istore_n (pc' := 22) dX12_isWord_21 (by decide) rfl ?_
    refine z_iconst (x := 0) (pc' := 23) dX12_isWord_22 (by decide) rfl ?_
    refine z_istore_n (pc' := 24) dX12_isWord_23 (by decide) rfl ?_
    exact z_dr (ls' := [some (.ref (zp 416 0)), some (.ref q1), some (.int 1), some (.int 0)]) ⟨rfl, rfl, rfl, rfl, trivial⟩ h
def rwp_X12_isWord_24 (E : ZE) (l : Launch) (d b : Nat) (A G : ZG) (Q : Option Value → ZS9 → Prop) (k : Nat) (q1 : Nat) (x2 : Int32) (x3 : Int32) (S : ZS9) : Prop :=
  ((x2 = 0 →
    narrow .boolean (.int x2) = .int x2 ∧ Q (some (.int x2)) S) ∧
  (¬ (x2 = 0) →
    ∃ n1, n1 < 32 ∧ q1 = zp 1000 n1 ∧ 4 ≤ d ∧
    (((Int32.ofNat (zstl n1)) ≤ x3 →
      narrow .boolean (.int x2) = .int x2 ∧ Q (some (.int x2)) S) ∧
    (¬ ((Int32.ofNat (zstl n1)) ≤ x3) →
      vp_in ((S 416 6) + x3) 400 ∧
      ∃ n2, n2 < 32 ∧ q1 = zp 1000 n2 ∧ 6 ≤ d ∧ vp_in x3 (zstl n2) ∧
      ((¬ (S 1602 ((S 416 6) + x3).toNatClampNeg) = (zstc n2 x3.toNatClampNeg) →
        zW E l mX12_isWord d b A (rQ G Q) k 24 [some (.ref (zp 416 0)), some (.ref q1), some (.int 0), some (.int (x3 + 1))] [] (zput G S)) ∧
      (¬ (¬ (S 1602 ((S 416 6) + x3).toNatClampNeg) = (zstc n2 x3.toNatClampNeg)) →
        zW E l mX12_isWord d b A (rQ G Q) k 24 [some (.ref (zp 416 0)), some (.ref q1), some (.int 1), some (.int (x3 + 1))] [] (zput G S)))))))
theorem rwpt_X12_isWord_24 {E : ZE} {l : Launch} {d b : Nat} {A G : ZG} {Q : Option Value → ZS9 → Prop} {k : Nat} {q1 : Nat} {x2 : Int32} {x3 : Int32} {S : ZS9} (hK : RK G) (h : rwp_X12_isWord_24 E l d b A G Q k q1 x2 x3 S) : zW E l mX12_isWord d b A (rQ G Q) k 24 [some (.ref (zp 416 0)), some (.ref q1), some (.int x2), some (.int x3)] [] (zput G S) := by
  unfold rwp_X12_isWord_24 at h
  refine z_iload_n (pc' := 25) dX12_isWord_24 rfl rfl ?_
  refine z_if_eq (pt := 67) (pc' := 28) dX12_isWord_25 (by decide) rfl (fun hc => ?_) (fun hc => ?_)
  · have h := h.1 hc
    refine z_iload_n (pc' := 68) dX12_isWord_67 rfl rfl ?_
    exact z_zret (ty := .boolean) dX12_isWord_68 rfl h.1 ⟨_, _, rfl, rfl, h.2⟩
  · have h := h.2 hc
    refine z_iload_n (pc' := 29) dX12_isWord_28 rfl rfl ?_
    refine z_aload_n (pc' := 30) dX12_isWord_29 rfl rfl ?_
    obtain ⟨n1, h1, h2, h3, h⟩ := h
    refine z_strlen (n := n1) (st := [.int x3]) (pc' := 33) dX12_isWord_30 kX12_200 rfl h1 h2 (hK.put.2.2 _ h1) h3 (Nat.le_of_ble_eq_true rfl) ?_
    refine z_icmp_ge (pt := 67) (pc' := 36) dX12_isWord_33 (by decide) rfl (fun hc => ?_) (fun hc => ?_)
    · have h := h.1 hc
      refine z_iload_n (pc' := 68) dX12_isWord_67 rfl rfl ?_
      exact z_zret (ty := .boolean) dX12_isWord_68 rfl h.1 ⟨_, _, rfl, rfl, h.2⟩
    · have h := h.2 hc
      refine z_aload_n (pc' := 37) dX12_isWord_36 rfl rfl ?_
      refine r_getA (kf := 2) (pc' := 40) hK rt_2 dX12_isWord_37 kX12_9 rfl (by decide) (by decide) rfl ?_
      refine z_aload_n (pc' := 41) dX12_isWord_40 rfl rfl ?_
      refine r_getI (kf := 6) (pc' := 44) hK dX12_isWord_41 kX12_194 rfl (by decide) (by decide) rfl ?_
      refine z_iload_n (pc' := 45) dX12_isWord_44 rfl rfl ?_
      refine z_iadd (pc' := 46) dX12_isWord_45 rfl rfl ?_
      obtain ⟨h1, h⟩ := h
      refine r_bald (pc' := 47) hK rt_2 rfl dX12_isWord_46 rfl h1 ?_
      refine z_aload_n (pc' := 48) dX12_isWord_47 rfl rfl ?_
      refine z_iload_n (pc' := 49) dX12_isWord_48 rfl rfl ?_
      obtain ⟨n2, h1, h2, h3, h4, h⟩ := h
      refine z_strat (n := n2) (st := [.int (S 1602 ((S 416 6) + x3).toNatClampNeg)]) (pc' := 52) dX12_isWord_49 kX12_206 rfl h1 h2 (hK.put.2.2 _ h1) h3 h4 (Nat.le_of_ble_eq_true rfl) ?_
      refine z_icmp_ne (pt := 59) (pc' := 55) dX12_isWord_52 (by decide) rfl (fun hc => ?_) (fun hc => ?_)
      · have h := h.1 hc
        refine z_iconst (x := 0) (pc' := 60) dX12_isWord_59 (by decide) rfl ?_
        refine z_istore_n (pc' := 61) dX12_isWord_60 (by decide) rfl ?_
        refine z_iinc (y := x3 + 1) (pc' := 64) dX12_isWord_61 rfl (zinc_1 _) (by decide) rfl ?_
        refine z_goto (pc' := 24) dX12_isWord_64 (by decide) ?_
        exact z_dr (ls' := [some (.ref (zp 416 0)), some (.ref q1), some (.int 0), some (.int (x3 + 1))]) ⟨rfl, rfl, rfl, rfl, trivial⟩ h
      · have h := h.2 hc
        refine z_iconst (x := 1) (pc' := 56) dX12_isWord_55 (by decide) rfl ?_
        refine z_goto (pc' := 60) dX12_isWord_56 (by decide) ?_
        refine z_istore_n (pc' := 61) dX12_isWord_60 (by decide) rfl ?_
        refine z_iinc (y := x3 + 1) (pc' := 64) dX12_isWord_61 rfl (zinc_1 _) (by decide) rfl ?_
        refine z_goto (pc' := 24) dX12_isWord_64 (by decide) ?_
        exact z_dr (ls' := [some (.ref (zp 416 0)), some (.ref q1), some (.int 1), some (.int (x3 + 1))]) ⟨rfl, rfl, rfl, rfl, trivial⟩ h
def rwp_X12_judge_0 (E : ZE) (l : Launch) (d b : Nat) (A G : ZG) (Q : Option Value → ZS9 → Prop) (k : Nat) (x1 : Int32) (x2 : Int32) (x3 : Int32) (x4 : Int32) (x5 : Int32) (S : ZS9) : Prop :=
  ∀ S1, S1 = zup S 416 0 0 →
  rcI E l mX12_nobody d [.int x1] S1 k (fun y4 S2 k3 =>
  rcI E l mX12_throwsIf d [.int y4, .int 1] S2 k3 (fun y7 S5 k6 =>
  ((¬ y7 = 0 →
    Q (some (.int 0)) S5) ∧
  (¬ (¬ y7 = 0) →
    rcI E l mX12_noAsk d [.int x2, .int x3] S5 k6 (fun y10 S8 k9 =>
    rcI E l mX12_throwsIf d [.int y10, .int 2] S8 k9 (fun y13 S11 k12 =>
    ((¬ y13 = 0 →
      Q (some (.int 0)) S11) ∧
    (¬ (¬ y13 = 0) →
      scI E l mX12_in d [.int x5, .int 0, .int 5] (fun y14 =>
      ((¬ y14 = 0 →
        zW E l mX12_judge d b A (rQ G Q) k12 48 [some (.ref (zp 416 0)), some (.int x1), some (.int x2), some (.int x3), some (.int x4), some (.int x5)] [.int 0, .ref (zp 416 0)] (zput G S11)) ∧
      (¬ (¬ y14 = 0) →
        zW E l mX12_judge d b A (rQ G Q) k12 48 [some (.ref (zp 416 0)), some (.int x1), some (.int x2), some (.int x3), some (.int x4), some (.int x5)] [.int 1, .ref (zp 416 0)] (zput G S11))))))))))))
theorem rwpt_X12_judge_0 {E : ZE} {l : Launch} {d b : Nat} {A G : ZG} {Q : Option Value → ZS9 → Prop} {k : Nat} {x1 : Int32} {x2 : Int32} {x3 : Int32} {x4 : Int32} {x5 : Int32} {S : ZS9} (hK : RK G) (h : rwp_X12_judge_0 E l d b A G Q k x1 x2 x3 x4 x5 S) : zW E l mX12_judge d b A (rQ G Q) k 0 [some (.ref (zp 416 0)), some (.int x1), some (.int x2), some (.int x3), some (.int x4), some (.int x5)] [] (zput G S) := by
  unfold rwp_X12_judge_0 at h
  refine z_aload_n (pc' := 1) dX12_judge_0 rfl rfl ?_
  refine z_iconst (x := 0) (pc' := 2) dX12_judge_1 (by decide) rfl ?_
  obtain ⟨S1, hG⟩ : ∃ z, z = zup S 416 0 0 := ⟨_, rfl⟩
  have h := h _ hG
  refine r_putI (kf := 0) (pc' := 5) hK dX12_judge_2 kX12_178 rfl (by decide) (by decide) rfl rfl (zok_int _) ?_
  refine r_st hG ?_
  refine z_aload_n (pc' := 6) dX12_judge_5 rfl rfl ?_
  refine z_aload_n (pc' := 7) dX12_judge_6 rfl rfl ?_
  refine z_iload_n (pc' := 8) dX12_judge_7 rfl rfl ?_
  refine r_callI (Y := mX12_nobody) (n := 1) (as := [.int x1]) (st := [.ref (zp 416 0)]) (pc' := 11) h hK dX12_judge_8 kX12_385 vX12_nobody rfl rfl rfl (Nat.le_of_ble_eq_true rfl) (fun y4 S2 k3 h => ?_)
  refine z_iconst (x := 1) (pc' := 12) dX12_judge_11 (by decide) rfl ?_
  refine r_callI (Y := mX12_throwsIf) (n := 2) (as := [.int y4, .int 1]) (st := []) (pc' := 15) h hK dX12_judge_12 kX12_321 vX12_throwsIf rfl rfl rfl (Nat.le_of_ble_eq_true rfl) (fun y7 S5 k6 h => ?_)
  refine z_if_ne (pt := 55) (pc' := 18) dX12_judge_15 (by decide) rfl (fun hc => ?_) (fun hc => ?_)
  · have h := h.1 hc
    refine z_iconst (x := 0) (pc' := 56) dX12_judge_55 (by decide) rfl ?_
    exact z_iret dX12_judge_56 rfl ⟨_, _, rfl, rfl, h⟩
  · have h := h.2 hc
    refine z_aload_n (pc' := 19) dX12_judge_18 rfl rfl ?_
    refine z_aload_n (pc' := 20) dX12_judge_19 rfl rfl ?_
    refine z_iload_n (pc' := 21) dX12_judge_20 rfl rfl ?_
    refine z_iload_n (pc' := 22) dX12_judge_21 rfl rfl ?_
    refine r_callI (Y := mX12_noAsk) (n := 2) (as := [.int x2, .int x3]) (st := [.ref (zp 416 0)]) (pc' := 25) h hK dX12_judge_22 kX12_418 vX12_noAsk rfl rfl rfl (Nat.le_of_ble_eq_true rfl) (fun y10 S8 k9 h => ?_)
    refine z_iconst (x := 2) (pc' := 26) dX12_judge_25 (by decide) rfl ?_
    refine r_callI (Y := mX12_throwsIf) (n := 2) (as := [.int y10, .int 2]) (st := []) (pc' := 29) h hK dX12_judge_26 kX12_321 vX12_throwsIf rfl rfl rfl (Nat.le_of_ble_eq_true rfl) (fun y13 S11 k12 h => ?_)
    refine z_if_ne (pt := 55) (pc' := 32) dX12_judge_29 (by decide) rfl (fun hc => ?_) (fun hc => ?_)
    · have h := h.1 hc
      refine z_iconst (x := 0) (pc' := 56) dX12_judge_55 (by decide) rfl ?_
      exact z_iret dX12_judge_56 rfl ⟨_, _, rfl, rfl, h⟩
    · have h := h.2 hc
      refine z_aload_n (pc' := 33) dX12_judge_32 rfl rfl ?_
      refine z_iload (pc' := 35) dX12_judge_33 rfl rfl ?_
      refine z_iconst (x := 0) (pc' := 36) dX12_judge_35 (by decide) rfl ?_
      refine z_iconst (x := 5) (pc' := 37) dX12_judge_36 (by decide) rfl ?_
      refine r_callSI (Y := mX12_in) (n := 3) (as := [.int x5, .int 0, .int 5]) (st := [.ref (zp 416 0)]) (pc' := 40) h dX12_judge_37 kX12_317 sX12_in rfl rfl (Nat.le_of_ble_eq_true rfl) (fun y14 h => ?_)
      refine z_if_ne (pt := 47) (pc' := 43) dX12_judge_40 (by decide) rfl (fun hc => ?_) (fun hc => ?_)
      · have h := h.1 hc
        refine z_iconst (x := 0) (pc' := 48) dX12_judge_47 (by decide) rfl ?_
        exact z_dr (ls' := [some (.ref (zp 416 0)), some (.int x1), some (.int x2), some (.int x3), some (.int x4), some (.int x5)]) ⟨rfl, rfl, rfl, rfl, rfl, rfl, trivial⟩ h
      · have h := h.2 hc
        refine z_iconst (x := 1) (pc' := 44) dX12_judge_43 (by decide) rfl ?_
        refine z_goto (pc' := 48) dX12_judge_44 (by decide) ?_
        exact z_dr (ls' := [some (.ref (zp 416 0)), some (.int x1), some (.int x2), some (.int x3), some (.int x4), some (.int x5)]) ⟨rfl, rfl, rfl, rfl, rfl, rfl, trivial⟩ h
def rwp_X12_judge_48 (E : ZE) (l : Launch) (d b : Nat) (A G : ZG) (Q : Option Value → ZS9 → Prop) (k : Nat) (x1 : Int32) (x2 : Int32) (x3 : Int32) (x4 : Int32) (x5 : Int32) (s0 : Int32) (S : ZS9) : Prop :=
  rcI E l mX12_throwsIf d [.int s0, .int 3] S k (fun y3 S1 k2 =>
  ((y3 = 0 →
    rcV E l mX12_judges d [.int x1, .int x2, .int x3, .int x4] S1 k2 (fun S4 k5 =>
    ((x5 = 0 →
      Q (some (.int (S4 416 23))) S4) ∧
    ((x5 = 1 →
      Q (some (.int (S4 416 24))) S4) ∧
    ((x5 = 2 →
      Q (some (.int (S4 416 25))) S4) ∧
    ((x5 = 3 →
      Q (some (.int (S4 416 26))) S4) ∧
    ((x5 = 4 →
      (((S4 416 28) = 0 →
        Q (some (.int 0)) S4) ∧
      (¬ ((S4 416 28) = 0) →
        Q (some (.int 1)) S4))) ∧
    (¬ x5 = 0 → ¬ x5 = 1 → ¬ x5 = 2 → ¬ x5 = 3 → ¬ x5 = 4 →
      Q (some (.int (S4 416 27))) S4)))))))) ∧
  (¬ (y3 = 0) →
    Q (some (.int 0)) S1)))
theorem rwpt_X12_judge_48 {E : ZE} {l : Launch} {d b : Nat} {A G : ZG} {Q : Option Value → ZS9 → Prop} {k : Nat} {x1 : Int32} {x2 : Int32} {x3 : Int32} {x4 : Int32} {x5 : Int32} {s0 : Int32} {S : ZS9} (hK : RK G) (h : rwp_X12_judge_48 E l d b A G Q k x1 x2 x3 x4 x5 s0 S) : zW E l mX12_judge d b A (rQ G Q) k 48 [some (.ref (zp 416 0)), some (.int x1), some (.int x2), some (.int x3), some (.int x4), some (.int x5)] [.int s0, .ref (zp 416 0)] (zput G S) := by
  unfold rwp_X12_judge_48 at h
  refine z_iconst (x := 3) (pc' := 49) dX12_judge_48 (by decide) rfl ?_
  refine r_callI (Y := mX12_throwsIf) (n := 2) (as := [.int s0, .int 3]) (st := []) (pc' := 52) h hK dX12_judge_49 kX12_321 vX12_throwsIf rfl rfl rfl (Nat.le_of_ble_eq_true rfl) (fun y3 S1 k2 h => ?_)
  refine z_if_eq (pt := 57) (pc' := 55) dX12_judge_52 (by decide) rfl (fun hc => ?_) (fun hc => ?_)
  · have h := h.1 hc
    refine z_aload_n (pc' := 58) dX12_judge_57 rfl rfl ?_
    refine z_iload_n (pc' := 59) dX12_judge_58 rfl rfl ?_
    refine z_iload_n (pc' := 60) dX12_judge_59 rfl rfl ?_
    refine z_iload_n (pc' := 61) dX12_judge_60 rfl rfl ?_
    refine z_iload (pc' := 63) dX12_judge_61 rfl rfl ?_
    refine r_callV (Y := mX12_judges) (n := 4) (as := [.int x1, .int x2, .int x3, .int x4]) (st := []) (pc' := 66) h hK dX12_judge_63 kX12_421 vX12_judges rfl rfl rfl (Nat.le_of_ble_eq_true rfl) (fun S4 k5 h => ?_)
    refine z_iload (pc' := 68) dX12_judge_66 rfl rfl ?_
    by_cases hc0 : x5 = 0
    · have h := h.1 hc0
      refine z_tableIn (off := 36) (pt := 104) dX12_judge_68 (by rw [hc0]; decide) (by rw [hc0]; decide) (by rw [hc0]; decide) (by decide) ?_
      refine z_aload_n (pc' := 105) dX12_judge_104 rfl rfl ?_
      refine r_getI (kf := 23) (pc' := 108) hK dX12_judge_105 kX12_340 rfl (by decide) (by decide) rfl ?_
      exact z_iret dX12_judge_108 rfl ⟨_, _, rfl, rfl, h⟩
    have h := h.2
    by_cases hc1 : x5 = 1
    · have h := h.1 hc1
      refine z_tableIn (off := 41) (pt := 109) dX12_judge_68 (by rw [hc1]; decide) (by rw [hc1]; decide) (by rw [hc1]; decide) (by decide) ?_
      refine z_aload_n (pc' := 110) dX12_judge_109 rfl rfl ?_
      refine r_getI (kf := 24) (pc' := 113) hK dX12_judge_110 kX12_343 rfl (by decide) (by decide) rfl ?_
      exact z_iret dX12_judge_113 rfl ⟨_, _, rfl, rfl, h⟩
    have h := h.2
    by_cases hc2 : x5 = 2
    · have h := h.1 hc2
      refine z_tableIn (off := 46) (pt := 114) dX12_judge_68 (by rw [hc2]; decide) (by rw [hc2]; decide) (by rw [hc2]; decide) (by decide) ?_
      refine z_aload_n (pc' := 115) dX12_judge_114 rfl rfl ?_
      refine r_getI (kf := 25) (pc' := 118) hK dX12_judge_115 kX12_346 rfl (by decide) (by decide) rfl ?_
      exact z_iret dX12_judge_118 rfl ⟨_, _, rfl, rfl, h⟩
    have h := h.2
    by_cases hc3 : x5 = 3
    · have h := h.1 hc3
      refine z_tableIn (off := 51) (pt := 119) dX12_judge_68 (by rw [hc3]; decide) (by rw [hc3]; decide) (by rw [hc3]; decide) (by decide) ?_
      refine z_aload_n (pc' := 120) dX12_judge_119 rfl rfl ?_
      refine r_getI (kf := 26) (pc' := 123) hK dX12_judge_120 kX12_349 rfl (by decide) (by decide) rfl ?_
      exact z_iret dX12_judge_123 rfl ⟨_, _, rfl, rfl, h⟩
    have h := h.2
    by_cases hc4 : x5 = 4
    · have h := h.1 hc4
      refine z_tableIn (off := 56) (pt := 124) dX12_judge_68 (by rw [hc4]; decide) (by rw [hc4]; decide) (by rw [hc4]; decide) (by decide) ?_
      refine z_aload_n (pc' := 125) dX12_judge_124 rfl rfl ?_
      refine r_getI (kf := 28) (pc' := 128) hK dX12_judge_125 kX12_355 rfl (by decide) (by decide) rfl ?_
      refine z_if_eq (pt := 135) (pc' := 131) dX12_judge_128 (by decide) rfl (fun hc => ?_) (fun hc => ?_)
      · have h := h.1 hc
        refine z_iconst (x := 0) (pc' := 136) dX12_judge_135 (by decide) rfl ?_
        exact z_iret dX12_judge_136 rfl ⟨_, _, rfl, rfl, h⟩
      · have h := h.2 hc
        refine z_iconst (x := 1) (pc' := 132) dX12_judge_131 (by decide) rfl ?_
        refine z_goto (pc' := 136) dX12_judge_132 (by decide) ?_
        exact z_iret dX12_judge_136 rfl ⟨_, _, rfl, rfl, h⟩
    have h := h.2
    have h := h hc0 hc1 hc2 hc3 hc4
    refine z_tableOut (pt := 137) dX12_judge_68 (by have e0 := lv_neT (a := 0) hc0 (by decide); have e1 := lv_neT (a := 1) hc1 (by decide); have e2 := lv_neT (a := 2) hc2 (by decide); have e3 := lv_neT (a := 3) hc3 (by decide); have e4 := lv_neT (a := 4) hc4 (by decide); omega) (by decide) ?_
    refine z_aload_n (pc' := 138) dX12_judge_137 rfl rfl ?_
    refine r_getI (kf := 27) (pc' := 141) hK dX12_judge_138 kX12_352 rfl (by decide) (by decide) rfl ?_
    exact z_iret dX12_judge_141 rfl ⟨_, _, rfl, rfl, h⟩
  · have h := h.2 hc
    refine z_iconst (x := 0) (pc' := 56) dX12_judge_55 (by decide) rfl ?_
    exact z_iret dX12_judge_56 rfl ⟨_, _, rfl, rfl, h⟩
def rwp_X12_judges_0 (E : ZE) (l : Launch) (d b : Nat) (A G : ZG) (Q : Option Value → ZS9 → Prop) (k : Nat) (x1 : Int32) (x2 : Int32) (x3 : Int32) (x4 : Int32) (S : ZS9) : Prop :=
  vp_in x1 80 ∧
  scI E l mJ9_floorDiv_7cf53 d [.int ((S 416 1) - (S 1129 x1.toNatClampNeg)), .int 365] (fun y1 =>
  vp_in (0 : Int32) 9 ∧
  ∀ S2, S2 = zup S 1121 (0 : Int32).toNatClampNeg y1 →
  vp_in (1 : Int32) 9 ∧
  ∀ S3, S3 = zup S2 1121 (1 : Int32).toNatClampNeg (x3 - (S2 416 1)) →
  rcI E l mX12_validOf d [.int x1, .int (S3 416 1)] S3 k (fun y6 S4 k5 =>
  vp_in (2 : Int32) 9 ∧
  ∀ S7, S7 = zup S4 1121 (2 : Int32).toNatClampNeg y6 →
  vp_in x1 80 ∧
  (((S7 2130 x1.toNatClampNeg) = 0 →
    vp_in (3 : Int32) 9 ∧
    ∀ S8, S8 = zup S7 1121 (3 : Int32).toNatClampNeg 0 →
    zW E l mX12_judges d b A (rQ G Q) k5 73 [some (.ref (zp 416 0)), none, some (.int x2), none, some (.int x4), some (.int 0), none, none] [] (zput G S8)) ∧
  (¬ ((S7 2130 x1.toNatClampNeg) = 0) →
    vp_in (3 : Int32) 9 ∧
    ∀ S9, S9 = zup S7 1121 (3 : Int32).toNatClampNeg 1 →
    zW E l mX12_judges d b A (rQ G Q) k5 73 [some (.ref (zp 416 0)), none, some (.int x2), none, some (.int x4), some (.int 0), none, none] [] (zput G S9)))))
theorem rwpt_X12_judges_0 {E : ZE} {l : Launch} {d b : Nat} {A G : ZG} {Q : Option Value → ZS9 → Prop} {k : Nat} {x1 : Int32} {x2 : Int32} {x3 : Int32} {x4 : Int32} {S : ZS9} (hK : RK G) (h : rwp_X12_judges_0 E l d b A G Q k x1 x2 x3 x4 S) : zW E l mX12_judges d b A (rQ G Q) k 0 [some (.ref (zp 416 0)), some (.int x1), some (.int x2), some (.int x3), some (.int x4), none, none, none] [] (zput G S) := by
  unfold rwp_X12_judges_0 at h
  refine z_aload_n (pc' := 1) dX12_judges_0 rfl rfl ?_
  refine r_getA (kf := 21) (pc' := 4) hK rt_21 dX12_judges_1 kX12_48 rfl (by decide) (by decide) rfl ?_
  refine z_iconst (x := 0) (pc' := 5) dX12_judges_4 (by decide) rfl ?_
  refine z_aload_n (pc' := 6) dX12_judges_5 rfl rfl ?_
  refine r_getI (kf := 1) (pc' := 9) hK dX12_judges_6 kX12_314 rfl (by decide) (by decide) rfl ?_
  refine z_aload_n (pc' := 10) dX12_judges_9 rfl rfl ?_
  refine r_getA (kf := 29) (pc' := 13) hK rt_29 dX12_judges_10 kX12_55 rfl (by decide) (by decide) rfl ?_
  refine z_iload_n (pc' := 14) dX12_judges_13 rfl rfl ?_
  obtain ⟨h1, h⟩ := h
  refine r_iald (pc' := 15) hK rt_29 rfl dX12_judges_14 rfl h1 ?_
  refine z_isub (pc' := 16) dX12_judges_15 rfl rfl ?_
  refine z_sipush (x := 365) (pc' := 19) dX12_judges_16 (by decide) rfl ?_
  refine r_callSI (Y := mJ9_floorDiv_7cf53) (n := 2) (as := [.int ((S 416 1) - (S 1129 x1.toNatClampNeg)), .int 365]) (st := [.int 0, .ref (zp 1121 0)]) (pc' := 22) h dX12_judges_19 kX12_331 sJ9_floorDiv_7cf53 rfl rfl (Nat.le_of_ble_eq_true rfl) (fun y1 h => ?_)
  obtain ⟨h1, h⟩ := h
  obtain ⟨S2, hG⟩ : ∃ z, z = zup S 1121 (0 : Int32).toNatClampNeg y1 := ⟨_, rfl⟩
  have h := h _ hG
  refine r_iast (pc' := 23) hK rt_21 rfl dX12_judges_22 rfl h1  ?_
  refine r_st hG ?_
  refine z_aload_n (pc' := 24) dX12_judges_23 rfl rfl ?_
  refine r_getA (kf := 21) (pc' := 27) hK rt_21 dX12_judges_24 kX12_48 rfl (by decide) (by decide) rfl ?_
  refine z_iconst (x := 1) (pc' := 28) dX12_judges_27 (by decide) rfl ?_
  refine z_iload_n (pc' := 29) dX12_judges_28 rfl rfl ?_
  refine z_aload_n (pc' := 30) dX12_judges_29 rfl rfl ?_
  refine r_getI (kf := 1) (pc' := 33) hK dX12_judges_30 kX12_314 rfl (by decide) (by decide) rfl ?_
  refine z_isub (pc' := 34) dX12_judges_33 rfl rfl ?_
  obtain ⟨h1, h⟩ := h
  obtain ⟨S3, hG⟩ : ∃ z, z = zup S2 1121 (1 : Int32).toNatClampNeg (x3 - (S2 416 1)) := ⟨_, rfl⟩
  have h := h _ hG
  refine r_iast (pc' := 35) hK rt_21 rfl dX12_judges_34 rfl h1  ?_
  refine r_st hG ?_
  refine z_aload_n (pc' := 36) dX12_judges_35 rfl rfl ?_
  refine r_getA (kf := 21) (pc' := 39) hK rt_21 dX12_judges_36 kX12_48 rfl (by decide) (by decide) rfl ?_
  refine z_iconst (x := 2) (pc' := 40) dX12_judges_39 (by decide) rfl ?_
  refine z_aload_n (pc' := 41) dX12_judges_40 rfl rfl ?_
  refine z_iload_n (pc' := 42) dX12_judges_41 rfl rfl ?_
  refine z_aload_n (pc' := 43) dX12_judges_42 rfl rfl ?_
  refine r_getI (kf := 1) (pc' := 46) hK dX12_judges_43 kX12_314 rfl (by decide) (by decide) rfl ?_
  refine r_callI (Y := mX12_validOf) (n := 2) (as := [.int x1, .int (S3 416 1)]) (st := [.int 2, .ref (zp 1121 0)]) (pc' := 49) h hK dX12_judges_46 kX12_337 vX12_validOf rfl rfl rfl (Nat.le_of_ble_eq_true rfl) (fun y6 S4 k5 h => ?_)
  obtain ⟨h1, h⟩ := h
  obtain ⟨S7, hG⟩ : ∃ z, z = zup S4 1121 (2 : Int32).toNatClampNeg y6 := ⟨_, rfl⟩
  have h := h _ hG
  refine r_iast (pc' := 50) hK rt_21 rfl dX12_judges_49 rfl h1  ?_
  refine r_st hG ?_
  refine z_aload_n (pc' := 51) dX12_judges_50 rfl rfl ?_
  refine r_getA (kf := 21) (pc' := 54) hK rt_21 dX12_judges_51 kX12_48 rfl (by decide) (by decide) rfl ?_
  refine z_iconst (x := 3) (pc' := 55) dX12_judges_54 (by decide) rfl ?_
  refine z_aload_n (pc' := 56) dX12_judges_55 rfl rfl ?_
  refine r_getA (kf := 30) (pc' := 59) hK rt_30 dX12_judges_56 kX12_58 rfl (by decide) (by decide) rfl ?_
  refine z_iload_n (pc' := 60) dX12_judges_59 rfl rfl ?_
  obtain ⟨h1, h⟩ := h
  refine r_zald (pc' := 61) hK rt_30 rfl dX12_judges_60 rfl h1 ?_
  refine z_if_eq (pt := 68) (pc' := 64) dX12_judges_61 (by decide) rfl (fun hc => ?_) (fun hc => ?_)
  · have h := h.1 hc
    refine z_iconst (x := 0) (pc' := 69) dX12_judges_68 (by decide) rfl ?_
    obtain ⟨h1, h⟩ := h
    obtain ⟨S8, hG⟩ : ∃ z, z = zup S7 1121 (3 : Int32).toNatClampNeg 0 := ⟨_, rfl⟩
    have h := h _ hG
    refine r_iast (pc' := 70) hK rt_21 rfl dX12_judges_69 rfl h1  ?_
    refine r_st hG ?_
    refine z_iconst (x := 0) (pc' := 71) dX12_judges_70 (by decide) rfl ?_
    refine z_istore (pc' := 73) dX12_judges_71 (by decide) rfl ?_
    exact z_dr (ls' := [some (.ref (zp 416 0)), none, some (.int x2), none, some (.int x4), some (.int 0), none, none]) ⟨rfl, rfl, rfl, rfl, trivial⟩ h
  · have h := h.2 hc
    refine z_iconst (x := 1) (pc' := 65) dX12_judges_64 (by decide) rfl ?_
    refine z_goto (pc' := 69) dX12_judges_65 (by decide) ?_
    obtain ⟨h1, h⟩ := h
    obtain ⟨S9, hG⟩ : ∃ z, z = zup S7 1121 (3 : Int32).toNatClampNeg 1 := ⟨_, rfl⟩
    have h := h _ hG
    refine r_iast (pc' := 70) hK rt_21 rfl dX12_judges_69 rfl h1  ?_
    refine r_st hG ?_
    refine z_iconst (x := 0) (pc' := 71) dX12_judges_70 (by decide) rfl ?_
    refine z_istore (pc' := 73) dX12_judges_71 (by decide) rfl ?_
    exact z_dr (ls' := [some (.ref (zp 416 0)), none, some (.int x2), none, some (.int x4), some (.int 0), none, none]) ⟨rfl, rfl, rfl, rfl, trivial⟩ h
def rwp_X12_judges_73 (E : ZE) (l : Launch) (d b : Nat) (A G : ZG) (Q : Option Value → ZS9 → Prop) (k : Nat) (x2 : Int32) (x4 : Int32) (x5 : Int32) (S : ZS9) : Prop :=
  ((4 ≤ x5 →
    ((x4 = 0 →
      zW E l mX12_judges d b A (rQ G Q) k 121 [some (.ref (zp 416 0)), none, none, none, none, none, none, none] [.int 0, .int 8, .ref (zp 1121 0)] (zput G S)) ∧
    (¬ (x4 = 0) →
      zW E l mX12_judges d b A (rQ G Q) k 121 [some (.ref (zp 416 0)), none, none, none, none, none, none, none] [.int 1, .int 8, .ref (zp 1121 0)] (zput G S)))) ∧
  (¬ (4 ≤ x5) →
    ((¬ x2 = x5 →
      vp_in (4 + x5) 9 ∧
      ∀ S1, S1 = zup S 1121 (4 + x5).toNatClampNeg 0 →
      zW E l mX12_judges d b A (rQ G Q) k 73 [some (.ref (zp 416 0)), none, some (.int x2), none, some (.int x4), some (.int (x5 + 1)), none, none] [] (zput G S1)) ∧
    (¬ (¬ x2 = x5) →
      vp_in (4 + x5) 9 ∧
      ∀ S2, S2 = zup S 1121 (4 + x5).toNatClampNeg 1 →
      zW E l mX12_judges d b A (rQ G Q) k 73 [some (.ref (zp 416 0)), none, some (.int x2), none, some (.int x4), some (.int (x5 + 1)), none, none] [] (zput G S2)))))
theorem rwpt_X12_judges_73 {E : ZE} {l : Launch} {d b : Nat} {A G : ZG} {Q : Option Value → ZS9 → Prop} {k : Nat} {x2 : Int32} {x4 : Int32} {x5 : Int32} {S : ZS9} (hK : RK G) (h : rwp_X12_judges_73 E l d b A G Q k x2 x4 x5 S) : zW E l mX12_judges d b A (rQ G Q) k 73 [some (.ref (zp 416 0)), none, some (.int x2), none, some (.int x4), some (.int x5), none, none] [] (zput G S) := by
  unfold rwp_X12_judges_73 at h
  refine z_iload (pc' := 75) dX12_judges_73 rfl rfl ?_
  refine z_iconst (x := 4) (pc' := 76) dX12_judges_75 (by decide) rfl ?_
  refine z_icmp_ge (pt := 105) (pc' := 79) dX12_judges_76 (by decide) rfl (fun hc => ?_) (fun hc => ?_)
  · have h := h.1 hc
    refine z_aload_n (pc' := 106) dX12_judges_105 rfl rfl ?_
    refine r_getA (kf := 21) (pc' := 109) hK rt_21 dX12_judges_106 kX12_48 rfl (by decide) (by decide) rfl ?_
    refine z_bipush (x := 8) (pc' := 111) dX12_judges_109 (by decide) rfl ?_
    refine z_iload (pc' := 113) dX12_judges_111 rfl rfl ?_
    refine z_if_eq (pt := 120) (pc' := 116) dX12_judges_113 (by decide) rfl (fun hc => ?_) (fun hc => ?_)
    · have h := h.1 hc
      refine z_iconst (x := 0) (pc' := 121) dX12_judges_120 (by decide) rfl ?_
      exact z_dr (ls' := [some (.ref (zp 416 0)), none, none, none, none, none, none, none]) ⟨rfl, trivial⟩ h
    · have h := h.2 hc
      refine z_iconst (x := 1) (pc' := 117) dX12_judges_116 (by decide) rfl ?_
      refine z_goto (pc' := 121) dX12_judges_117 (by decide) ?_
      exact z_dr (ls' := [some (.ref (zp 416 0)), none, none, none, none, none, none, none]) ⟨rfl, trivial⟩ h
  · have h := h.2 hc
    refine z_aload_n (pc' := 80) dX12_judges_79 rfl rfl ?_
    refine r_getA (kf := 21) (pc' := 83) hK rt_21 dX12_judges_80 kX12_48 rfl (by decide) (by decide) rfl ?_
    refine z_iconst (x := 4) (pc' := 84) dX12_judges_83 (by decide) rfl ?_
    refine z_iload (pc' := 86) dX12_judges_84 rfl rfl ?_
    refine z_iadd (pc' := 87) dX12_judges_86 rfl rfl ?_
    refine z_iload_n (pc' := 88) dX12_judges_87 rfl rfl ?_
    refine z_iload (pc' := 90) dX12_judges_88 rfl rfl ?_
    refine z_icmp_ne (pt := 97) (pc' := 93) dX12_judges_90 (by decide) rfl (fun hc => ?_) (fun hc => ?_)
    · have h := h.1 hc
      refine z_iconst (x := 0) (pc' := 98) dX12_judges_97 (by decide) rfl ?_
      obtain ⟨h1, h⟩ := h
      obtain ⟨S1, hG⟩ : ∃ z, z = zup S 1121 (4 + x5).toNatClampNeg 0 := ⟨_, rfl⟩
      have h := h _ hG
      refine r_iast (pc' := 99) hK rt_21 rfl dX12_judges_98 rfl h1  ?_
      refine r_st hG ?_
      refine z_iinc (y := x5 + 1) (pc' := 102) dX12_judges_99 rfl (zinc_1 _) (by decide) rfl ?_
      refine z_goto (pc' := 73) dX12_judges_102 (by decide) ?_
      exact z_dr (ls' := [some (.ref (zp 416 0)), none, some (.int x2), none, some (.int x4), some (.int (x5 + 1)), none, none]) ⟨rfl, rfl, rfl, rfl, trivial⟩ h
    · have h := h.2 hc
      refine z_iconst (x := 1) (pc' := 94) dX12_judges_93 (by decide) rfl ?_
      refine z_goto (pc' := 98) dX12_judges_94 (by decide) ?_
      obtain ⟨h1, h⟩ := h
      obtain ⟨S2, hG⟩ : ∃ z, z = zup S 1121 (4 + x5).toNatClampNeg 1 := ⟨_, rfl⟩
      have h := h _ hG
      refine r_iast (pc' := 99) hK rt_21 rfl dX12_judges_98 rfl h1  ?_
      refine r_st hG ?_
      refine z_iinc (y := x5 + 1) (pc' := 102) dX12_judges_99 rfl (zinc_1 _) (by decide) rfl ?_
      refine z_goto (pc' := 73) dX12_judges_102 (by decide) ?_
      exact z_dr (ls' := [some (.ref (zp 416 0)), none, some (.int x2), none, some (.int x4), some (.int (x5 + 1)), none, none]) ⟨rfl, rfl, rfl, rfl, trivial⟩ h
def rwp_X12_judges_121 (E : ZE) (l : Launch) (d b : Nat) (A G : ZG) (Q : Option Value → ZS9 → Prop) (k : Nat) (s0 : Int32) (s1 : Int32) (S : ZS9) : Prop :=
  vp_in s1 9 ∧
  ∀ S1, S1 = zup S 1121 s1.toNatClampNeg s0 →
  ∀ S2, S2 = zup S1 416 23 0 →
  ∀ S3, S3 = zup S2 416 24 0 →
  ∀ S4, S4 = zup S3 416 25 (-1) →
  ∀ S5, S5 = zup S4 416 26 0 →
  ∀ S6, S6 = zup S5 416 27 (-1) →
  ∀ S7, S7 = zup S6 416 28 0 →
  rcI E l mX12_lawOf d [.int (S7 416 1)] S7 k (fun y10 S8 k9 =>
  zW E l mX12_judges d b A (rQ G Q) k9 165 [some (.ref (zp 416 0)), none, none, none, none, some (.int y10), some (.int 0), none] [] (zput G S8))
theorem rwpt_X12_judges_121 {E : ZE} {l : Launch} {d b : Nat} {A G : ZG} {Q : Option Value → ZS9 → Prop} {k : Nat} {s0 : Int32} {s1 : Int32} {S : ZS9} (hK : RK G) (h : rwp_X12_judges_121 E l d b A G Q k s0 s1 S) : zW E l mX12_judges d b A (rQ G Q) k 121 [some (.ref (zp 416 0)), none, none, none, none, none, none, none] [.int s0, .int s1, .ref (zp 1121 0)] (zput G S) := by
  unfold rwp_X12_judges_121 at h
  obtain ⟨h1, h⟩ := h
  obtain ⟨S1, hG⟩ : ∃ z, z = zup S 1121 s1.toNatClampNeg s0 := ⟨_, rfl⟩
  have h := h _ hG
  refine r_iast (pc' := 122) hK rt_21 rfl dX12_judges_121 rfl h1  ?_
  refine r_st hG ?_
  refine z_aload_n (pc' := 123) dX12_judges_122 rfl rfl ?_
  refine z_iconst (x := 0) (pc' := 124) dX12_judges_123 (by decide) rfl ?_
  obtain ⟨S2, hG⟩ : ∃ z, z = zup S1 416 23 0 := ⟨_, rfl⟩
  have h := h _ hG
  refine r_putI (kf := 23) (pc' := 127) hK dX12_judges_124 kX12_340 rfl (by decide) (by decide) rfl rfl (zok_int _) ?_
  refine r_st hG ?_
  refine z_aload_n (pc' := 128) dX12_judges_127 rfl rfl ?_
  refine z_iconst (x := 0) (pc' := 129) dX12_judges_128 (by decide) rfl ?_
  obtain ⟨S3, hG⟩ : ∃ z, z = zup S2 416 24 0 := ⟨_, rfl⟩
  have h := h _ hG
  refine r_putI (kf := 24) (pc' := 132) hK dX12_judges_129 kX12_343 rfl (by decide) (by decide) rfl rfl (zok_int _) ?_
  refine r_st hG ?_
  refine z_aload_n (pc' := 133) dX12_judges_132 rfl rfl ?_
  refine z_iconst (x := (-1)) (pc' := 134) dX12_judges_133 (by decide) rfl ?_
  obtain ⟨S4, hG⟩ : ∃ z, z = zup S3 416 25 (-1) := ⟨_, rfl⟩
  have h := h _ hG
  refine r_putI (kf := 25) (pc' := 137) hK dX12_judges_134 kX12_346 rfl (by decide) (by decide) rfl rfl (zok_int _) ?_
  refine r_st hG ?_
  refine z_aload_n (pc' := 138) dX12_judges_137 rfl rfl ?_
  refine z_iconst (x := 0) (pc' := 139) dX12_judges_138 (by decide) rfl ?_
  obtain ⟨S5, hG⟩ : ∃ z, z = zup S4 416 26 0 := ⟨_, rfl⟩
  have h := h _ hG
  refine r_putI (kf := 26) (pc' := 142) hK dX12_judges_139 kX12_349 rfl (by decide) (by decide) rfl rfl (zok_int _) ?_
  refine r_st hG ?_
  refine z_aload_n (pc' := 143) dX12_judges_142 rfl rfl ?_
  refine z_iconst (x := (-1)) (pc' := 144) dX12_judges_143 (by decide) rfl ?_
  obtain ⟨S6, hG⟩ : ∃ z, z = zup S5 416 27 (-1) := ⟨_, rfl⟩
  have h := h _ hG
  refine r_putI (kf := 27) (pc' := 147) hK dX12_judges_144 kX12_352 rfl (by decide) (by decide) rfl rfl (zok_int _) ?_
  refine r_st hG ?_
  refine z_aload_n (pc' := 148) dX12_judges_147 rfl rfl ?_
  refine z_iconst (x := 0) (pc' := 149) dX12_judges_148 (by decide) rfl ?_
  obtain ⟨S7, hG⟩ : ∃ z, z = zup S6 416 28 0 := ⟨_, rfl⟩
  have h := h _ hG
  refine r_putI (kf := 28) (pc' := 152) hK dX12_judges_149 kX12_355 rfl (by decide) (by decide) rfl rfl zok_0 ?_
  refine r_st hG ?_
  refine z_aload_n (pc' := 153) dX12_judges_152 rfl rfl ?_
  refine z_aload_n (pc' := 154) dX12_judges_153 rfl rfl ?_
  refine r_getI (kf := 1) (pc' := 157) hK dX12_judges_154 kX12_314 rfl (by decide) (by decide) rfl ?_
  refine r_callI (Y := mX12_lawOf) (n := 1) (as := [.int (S7 416 1)]) (st := []) (pc' := 160) h hK dX12_judges_157 kX12_359 vX12_lawOf rfl rfl rfl (Nat.le_of_ble_eq_true rfl) (fun y10 S8 k9 h => ?_)
  refine z_istore (pc' := 162) dX12_judges_160 (by decide) rfl ?_
  refine z_iconst (x := 0) (pc' := 163) dX12_judges_162 (by decide) rfl ?_
  refine z_istore (pc' := 165) dX12_judges_163 (by decide) rfl ?_
  exact z_dr (ls' := [some (.ref (zp 416 0)), none, none, none, none, some (.int y10), some (.int 0), none]) ⟨rfl, rfl, rfl, trivial⟩ h
def rwp_X12_judges_165 (E : ZE) (l : Launch) (d b : Nat) (A G : ZG) (Q : Option Value → ZS9 → Prop) (k : Nat) (x5 : Int32) (x6 : Int32) (S : ZS9) : Prop :=
  ((x5 < 0 →
    ((0 ≤ (S 416 25) →
      Q none S) ∧
    (¬ (0 ≤ (S 416 25)) →
      ∀ S1, S1 = zup S 416 25 10 →
      Q none S1))) ∧
  (¬ (x5 < 0) →
    vp_in x5 13 ∧
    (((S 1111 x5.toNatClampNeg) ≤ x6 →
      ((0 ≤ (S 416 25) →
        Q none S) ∧
      (¬ (0 ≤ (S 416 25)) →
        ∀ S2, S2 = zup S 416 25 10 →
        Q none S2))) ∧
    (¬ ((S 1111 x5.toNatClampNeg) ≤ x6) →
      vp_in ((16 * x5) + x6) 208 ∧
      vp_in ((16 * x5) + x6) 208 ∧
      rcI E l mX12_holds d [.int x5, .int (S 1114 ((16 * x5) + x6).toNatClampNeg), .int (S 1115 ((16 * x5) + x6).toNatClampNeg)] S k (fun y5 S3 k4 =>
      ((¬ y5 = 0 →
        vp_in ((16 * x5) + x6) 208 ∧
        (((S3 1112 ((16 * x5) + x6).toNatClampNeg) = 0 →
          vp_in ((16 * x5) + x6) 208 ∧
          ∀ S6, S6 = zup S3 416 23 ((S3 416 23) ||| (S3 1113 ((16 * x5) + x6).toNatClampNeg)) →
          zW E l mX12_judges d b A (rQ G Q) k4 165 [some (.ref (zp 416 0)), none, none, none, none, some (.int x5), some (.int (x6 + 1)), none] [] (zput G S6)) ∧
        (((S3 1112 ((16 * x5) + x6).toNatClampNeg) = 1 →
          vp_in ((16 * x5) + x6) 208 ∧
          ∀ S7, S7 = zup S3 416 24 ((S3 416 24) + (S3 1113 ((16 * x5) + x6).toNatClampNeg)) →
          zW E l mX12_judges d b A (rQ G Q) k4 165 [some (.ref (zp 416 0)), none, none, none, none, some (.int x5), some (.int (x6 + 1)), none] [] (zput G S7)) ∧
        (((S3 1112 ((16 * x5) + x6).toNatClampNeg) = 2 →
          vp_in ((16 * x5) + x6) 208 ∧
          scI E l mJ9_max_7cf53 d [.int (S3 416 25), .int (S3 1113 ((16 * x5) + x6).toNatClampNeg)] (fun y8 =>
          ∀ S9, S9 = zup S3 416 25 y8 →
          zW E l mX12_judges d b A (rQ G Q) k4 165 [some (.ref (zp 416 0)), none, none, none, none, some (.int x5), some (.int (x6 + 1)), none] [] (zput G S9))) ∧
        (((S3 1112 ((16 * x5) + x6).toNatClampNeg) = 3 →
          vp_in ((16 * x5) + x6) 208 ∧
          ∀ S10, S10 = zup S3 416 26 ((S3 416 26) + (S3 1113 ((16 * x5) + x6).toNatClampNeg)) →
          zW E l mX12_judges d b A (rQ G Q) k4 165 [some (.ref (zp 416 0)), none, none, none, none, some (.int x5), some (.int (x6 + 1)), none] [] (zput G S10)) ∧
        (((S3 1112 ((16 * x5) + x6).toNatClampNeg) = 4 →
          ∀ S11, S11 = zup S3 416 28 1 →
          zW E l mX12_judges d b A (rQ G Q) k4 165 [some (.ref (zp 416 0)), none, none, none, none, some (.int x5), some (.int (x6 + 1)), none] [] (zput G S11)) ∧
        (¬ (S3 1112 ((16 * x5) + x6).toNatClampNeg) = 0 → ¬ (S3 1112 ((16 * x5) + x6).toNatClampNeg) = 1 → ¬ (S3 1112 ((16 * x5) + x6).toNatClampNeg) = 2 → ¬ (S3 1112 ((16 * x5) + x6).toNatClampNeg) = 3 → ¬ (S3 1112 ((16 * x5) + x6).toNatClampNeg) = 4 →
          ((0 ≤ (S3 416 27) →
            vp_in ((16 * x5) + x6) 208 ∧
            scI E l mJ9_min_7cf53 d [.int (S3 416 27), .int (S3 1113 ((16 * x5) + x6).toNatClampNeg)] (fun y12 =>
            ∀ S13, S13 = zup S3 416 27 y12 →
            zW E l mX12_judges d b A (rQ G Q) k4 165 [some (.ref (zp 416 0)), none, none, none, none, some (.int x5), some (.int (x6 + 1)), none] [] (zput G S13))) ∧
          (¬ (0 ≤ (S3 416 27)) →
            vp_in ((16 * x5) + x6) 208 ∧
            ∀ S14, S14 = zup S3 416 27 (S3 1113 ((16 * x5) + x6).toNatClampNeg) →
            zW E l mX12_judges d b A (rQ G Q) k4 165 [some (.ref (zp 416 0)), none, none, none, none, some (.int x5), some (.int (x6 + 1)), none] [] (zput G S14)))))))))) ∧
      (¬ (¬ y5 = 0) →
        zW E l mX12_judges d b A (rQ G Q) k4 165 [some (.ref (zp 416 0)), none, none, none, none, some (.int x5), some (.int (x6 + 1)), none] [] (zput G S3))))))))
theorem rwpt_X12_judges_165 {E : ZE} {l : Launch} {d b : Nat} {A G : ZG} {Q : Option Value → ZS9 → Prop} {k : Nat} {x5 : Int32} {x6 : Int32} {S : ZS9} (hK : RK G) (h : rwp_X12_judges_165 E l d b A G Q k x5 x6 S) : zW E l mX12_judges d b A (rQ G Q) k 165 [some (.ref (zp 416 0)), none, none, none, none, some (.int x5), some (.int x6), none] [] (zput G S) := by
  unfold rwp_X12_judges_165 at h
  refine z_iload (pc' := 167) dX12_judges_165 rfl rfl ?_
  refine z_if_lt (pt := 387) (pc' := 170) dX12_judges_167 (by decide) rfl (fun hc => ?_) (fun hc => ?_)
  · have h := h.1 hc
    refine z_aload_n (pc' := 388) dX12_judges_387 rfl rfl ?_
    refine r_getI (kf := 25) (pc' := 391) hK dX12_judges_388 kX12_346 rfl (by decide) (by decide) rfl ?_
    refine z_if_ge (pt := 400) (pc' := 394) dX12_judges_391 (by decide) rfl (fun hc => ?_) (fun hc => ?_)
    · have h := h.1 hc
      exact z_vret dX12_judges_400 rfl ⟨_, _, rfl, rfl, h⟩
    · have h := h.2 hc
      refine z_aload_n (pc' := 395) dX12_judges_394 rfl rfl ?_
      refine z_bipush (x := 10) (pc' := 397) dX12_judges_395 (by decide) rfl ?_
      obtain ⟨S1, hG⟩ : ∃ z, z = zup S 416 25 10 := ⟨_, rfl⟩
      have h := h _ hG
      refine r_putI (kf := 25) (pc' := 400) hK dX12_judges_397 kX12_346 rfl (by decide) (by decide) rfl rfl (zok_int _) ?_
      refine r_st hG ?_
      exact z_vret dX12_judges_400 rfl ⟨_, _, rfl, rfl, h⟩
  · have h := h.2 hc
    refine z_iload (pc' := 172) dX12_judges_170 rfl rfl ?_
    refine z_aload_n (pc' := 173) dX12_judges_172 rfl rfl ?_
    refine r_getA (kf := 11) (pc' := 176) hK rt_11 dX12_judges_173 kX12_24 rfl (by decide) (by decide) rfl ?_
    refine z_iload (pc' := 178) dX12_judges_176 rfl rfl ?_
    obtain ⟨h1, h⟩ := h
    refine r_iald (pc' := 179) hK rt_11 rfl dX12_judges_178 rfl h1 ?_
    refine z_icmp_ge (pt := 387) (pc' := 182) dX12_judges_179 (by decide) rfl (fun hc => ?_) (fun hc => ?_)
    · have h := h.1 hc
      refine z_aload_n (pc' := 388) dX12_judges_387 rfl rfl ?_
      refine r_getI (kf := 25) (pc' := 391) hK dX12_judges_388 kX12_346 rfl (by decide) (by decide) rfl ?_
      refine z_if_ge (pt := 400) (pc' := 394) dX12_judges_391 (by decide) rfl (fun hc => ?_) (fun hc => ?_)
      · have h := h.1 hc
        exact z_vret dX12_judges_400 rfl ⟨_, _, rfl, rfl, h⟩
      · have h := h.2 hc
        refine z_aload_n (pc' := 395) dX12_judges_394 rfl rfl ?_
        refine z_bipush (x := 10) (pc' := 397) dX12_judges_395 (by decide) rfl ?_
        obtain ⟨S2, hG⟩ : ∃ z, z = zup S 416 25 10 := ⟨_, rfl⟩
        have h := h _ hG
        refine r_putI (kf := 25) (pc' := 400) hK dX12_judges_397 kX12_346 rfl (by decide) (by decide) rfl rfl (zok_int _) ?_
        refine r_st hG ?_
        exact z_vret dX12_judges_400 rfl ⟨_, _, rfl, rfl, h⟩
    · have h := h.2 hc
      refine z_bipush (x := 16) (pc' := 184) dX12_judges_182 (by decide) rfl ?_
      refine z_iload (pc' := 186) dX12_judges_184 rfl rfl ?_
      refine z_imul (pc' := 187) dX12_judges_186 rfl rfl ?_
      refine z_iload (pc' := 189) dX12_judges_187 rfl rfl ?_
      refine z_iadd (pc' := 190) dX12_judges_189 rfl rfl ?_
      refine z_istore (pc' := 192) dX12_judges_190 (by decide) rfl ?_
      refine z_aload_n (pc' := 193) dX12_judges_192 rfl rfl ?_
      refine z_iload (pc' := 195) dX12_judges_193 rfl rfl ?_
      refine z_aload_n (pc' := 196) dX12_judges_195 rfl rfl ?_
      refine r_getA (kf := 14) (pc' := 199) hK rt_14 dX12_judges_196 kX12_33 rfl (by decide) (by decide) rfl ?_
      refine z_iload (pc' := 201) dX12_judges_199 rfl rfl ?_
      obtain ⟨h1, h⟩ := h
      refine r_iald (pc' := 202) hK rt_14 rfl dX12_judges_201 rfl h1 ?_
      refine z_aload_n (pc' := 203) dX12_judges_202 rfl rfl ?_
      refine r_getA (kf := 15) (pc' := 206) hK rt_15 dX12_judges_203 kX12_36 rfl (by decide) (by decide) rfl ?_
      refine z_iload (pc' := 208) dX12_judges_206 rfl rfl ?_
      obtain ⟨h1, h⟩ := h
      refine r_iald (pc' := 209) hK rt_15 rfl dX12_judges_208 rfl h1 ?_
      refine r_callI (Y := mX12_holds) (n := 3) (as := [.int x5, .int (S 1114 ((16 * x5) + x6).toNatClampNeg), .int (S 1115 ((16 * x5) + x6).toNatClampNeg)]) (st := []) (pc' := 212) h hK dX12_judges_209 kX12_363 vX12_holds rfl rfl rfl (Nat.le_of_ble_eq_true rfl) (fun y5 S3 k4 h => ?_)
      refine z_if_ne (pt := 218) (pc' := 215) dX12_judges_212 (by decide) rfl (fun hc => ?_) (fun hc => ?_)
      · have h := h.1 hc
        refine z_aload_n (pc' := 219) dX12_judges_218 rfl rfl ?_
        refine r_getA (kf := 12) (pc' := 222) hK rt_12 dX12_judges_219 kX12_27 rfl (by decide) (by decide) rfl ?_
        refine z_iload (pc' := 224) dX12_judges_222 rfl rfl ?_
        obtain ⟨h1, h⟩ := h
        refine r_iald (pc' := 225) hK rt_12 rfl dX12_judges_224 rfl h1 ?_
        by_cases hc0 : (S3 1112 ((16 * x5) + x6).toNatClampNeg) = 0
        · have h := h.1 hc0
          refine z_tableIn (off := 35) (pt := 260) dX12_judges_225 (by rw [hc0]; decide) (by rw [hc0]; decide) (by rw [hc0]; decide) (by decide) ?_
          refine z_aload_n (pc' := 261) dX12_judges_260 rfl rfl ?_
          refine z_dup (pc' := 262) dX12_judges_261 rfl rfl ?_
          refine r_getI (kf := 23) (pc' := 265) hK dX12_judges_262 kX12_340 rfl (by decide) (by decide) rfl ?_
          refine z_aload_n (pc' := 266) dX12_judges_265 rfl rfl ?_
          refine r_getA (kf := 13) (pc' := 269) hK rt_13 dX12_judges_266 kX12_30 rfl (by decide) (by decide) rfl ?_
          refine z_iload (pc' := 271) dX12_judges_269 rfl rfl ?_
          obtain ⟨h1, h⟩ := h
          refine r_iald (pc' := 272) hK rt_13 rfl dX12_judges_271 rfl h1 ?_
          refine z_ior (pc' := 273) dX12_judges_272 rfl rfl ?_
          obtain ⟨S6, hG⟩ : ∃ z, z = zup S3 416 23 ((S3 416 23) ||| (S3 1113 ((16 * x5) + x6).toNatClampNeg)) := ⟨_, rfl⟩
          have h := h _ hG
          refine r_putI (kf := 23) (pc' := 276) hK dX12_judges_273 kX12_340 rfl (by decide) (by decide) rfl rfl (zok_int _) ?_
          refine r_st hG ?_
          refine z_goto (pc' := 381) dX12_judges_276 (by decide) ?_
          refine z_iinc (y := x6 + 1) (pc' := 384) dX12_judges_381 rfl (zinc_1 _) (by decide) rfl ?_
          refine z_goto (pc' := 165) dX12_judges_384 (by decide) ?_
          exact z_dr (ls' := [some (.ref (zp 416 0)), none, none, none, none, some (.int x5), some (.int (x6 + 1)), none]) ⟨rfl, rfl, rfl, trivial⟩ h
        have h := h.2
        by_cases hc1 : (S3 1112 ((16 * x5) + x6).toNatClampNeg) = 1
        · have h := h.1 hc1
          refine z_tableIn (off := 54) (pt := 279) dX12_judges_225 (by rw [hc1]; decide) (by rw [hc1]; decide) (by rw [hc1]; decide) (by decide) ?_
          refine z_aload_n (pc' := 280) dX12_judges_279 rfl rfl ?_
          refine z_dup (pc' := 281) dX12_judges_280 rfl rfl ?_
          refine r_getI (kf := 24) (pc' := 284) hK dX12_judges_281 kX12_343 rfl (by decide) (by decide) rfl ?_
          refine z_aload_n (pc' := 285) dX12_judges_284 rfl rfl ?_
          refine r_getA (kf := 13) (pc' := 288) hK rt_13 dX12_judges_285 kX12_30 rfl (by decide) (by decide) rfl ?_
          refine z_iload (pc' := 290) dX12_judges_288 rfl rfl ?_
          obtain ⟨h1, h⟩ := h
          refine r_iald (pc' := 291) hK rt_13 rfl dX12_judges_290 rfl h1 ?_
          refine z_iadd (pc' := 292) dX12_judges_291 rfl rfl ?_
          obtain ⟨S7, hG⟩ : ∃ z, z = zup S3 416 24 ((S3 416 24) + (S3 1113 ((16 * x5) + x6).toNatClampNeg)) := ⟨_, rfl⟩
          have h := h _ hG
          refine r_putI (kf := 24) (pc' := 295) hK dX12_judges_292 kX12_343 rfl (by decide) (by decide) rfl rfl (zok_int _) ?_
          refine r_st hG ?_
          refine z_goto (pc' := 381) dX12_judges_295 (by decide) ?_
          refine z_iinc (y := x6 + 1) (pc' := 384) dX12_judges_381 rfl (zinc_1 _) (by decide) rfl ?_
          refine z_goto (pc' := 165) dX12_judges_384 (by decide) ?_
          exact z_dr (ls' := [some (.ref (zp 416 0)), none, none, none, none, some (.int x5), some (.int (x6 + 1)), none]) ⟨rfl, rfl, rfl, trivial⟩ h
        have h := h.2
        by_cases hc2 : (S3 1112 ((16 * x5) + x6).toNatClampNeg) = 2
        · have h := h.1 hc2
          refine z_tableIn (off := 73) (pt := 298) dX12_judges_225 (by rw [hc2]; decide) (by rw [hc2]; decide) (by rw [hc2]; decide) (by decide) ?_
          refine z_aload_n (pc' := 299) dX12_judges_298 rfl rfl ?_
          refine z_aload_n (pc' := 300) dX12_judges_299 rfl rfl ?_
          refine r_getI (kf := 25) (pc' := 303) hK dX12_judges_300 kX12_346 rfl (by decide) (by decide) rfl ?_
          refine z_aload_n (pc' := 304) dX12_judges_303 rfl rfl ?_
          refine r_getA (kf := 13) (pc' := 307) hK rt_13 dX12_judges_304 kX12_30 rfl (by decide) (by decide) rfl ?_
          refine z_iload (pc' := 309) dX12_judges_307 rfl rfl ?_
          obtain ⟨h1, h⟩ := h
          refine r_iald (pc' := 310) hK rt_13 rfl dX12_judges_309 rfl h1 ?_
          refine r_callSI (Y := mJ9_max_7cf53) (n := 2) (as := [.int (S3 416 25), .int (S3 1113 ((16 * x5) + x6).toNatClampNeg)]) (st := [.ref (zp 416 0)]) (pc' := 313) h dX12_judges_310 kX12_366 sJ9_max_7cf53 rfl rfl (Nat.le_of_ble_eq_true rfl) (fun y8 h => ?_)
          obtain ⟨S9, hG⟩ : ∃ z, z = zup S3 416 25 y8 := ⟨_, rfl⟩
          have h := h _ hG
          refine r_putI (kf := 25) (pc' := 316) hK dX12_judges_313 kX12_346 rfl (by decide) (by decide) rfl rfl (zok_int _) ?_
          refine r_st hG ?_
          refine z_goto (pc' := 381) dX12_judges_316 (by decide) ?_
          refine z_iinc (y := x6 + 1) (pc' := 384) dX12_judges_381 rfl (zinc_1 _) (by decide) rfl ?_
          refine z_goto (pc' := 165) dX12_judges_384 (by decide) ?_
          exact z_dr (ls' := [some (.ref (zp 416 0)), none, none, none, none, some (.int x5), some (.int (x6 + 1)), none]) ⟨rfl, rfl, rfl, trivial⟩ h
        have h := h.2
        by_cases hc3 : (S3 1112 ((16 * x5) + x6).toNatClampNeg) = 3
        · have h := h.1 hc3
          refine z_tableIn (off := 94) (pt := 319) dX12_judges_225 (by rw [hc3]; decide) (by rw [hc3]; decide) (by rw [hc3]; decide) (by decide) ?_
          refine z_aload_n (pc' := 320) dX12_judges_319 rfl rfl ?_
          refine z_dup (pc' := 321) dX12_judges_320 rfl rfl ?_
          refine r_getI (kf := 26) (pc' := 324) hK dX12_judges_321 kX12_349 rfl (by decide) (by decide) rfl ?_
          refine z_aload_n (pc' := 325) dX12_judges_324 rfl rfl ?_
          refine r_getA (kf := 13) (pc' := 328) hK rt_13 dX12_judges_325 kX12_30 rfl (by decide) (by decide) rfl ?_
          refine z_iload (pc' := 330) dX12_judges_328 rfl rfl ?_
          obtain ⟨h1, h⟩ := h
          refine r_iald (pc' := 331) hK rt_13 rfl dX12_judges_330 rfl h1 ?_
          refine z_iadd (pc' := 332) dX12_judges_331 rfl rfl ?_
          obtain ⟨S10, hG⟩ : ∃ z, z = zup S3 416 26 ((S3 416 26) + (S3 1113 ((16 * x5) + x6).toNatClampNeg)) := ⟨_, rfl⟩
          have h := h _ hG
          refine r_putI (kf := 26) (pc' := 335) hK dX12_judges_332 kX12_349 rfl (by decide) (by decide) rfl rfl (zok_int _) ?_
          refine r_st hG ?_
          refine z_goto (pc' := 381) dX12_judges_335 (by decide) ?_
          refine z_iinc (y := x6 + 1) (pc' := 384) dX12_judges_381 rfl (zinc_1 _) (by decide) rfl ?_
          refine z_goto (pc' := 165) dX12_judges_384 (by decide) ?_
          exact z_dr (ls' := [some (.ref (zp 416 0)), none, none, none, none, some (.int x5), some (.int (x6 + 1)), none]) ⟨rfl, rfl, rfl, trivial⟩ h
        have h := h.2
        by_cases hc4 : (S3 1112 ((16 * x5) + x6).toNatClampNeg) = 4
        · have h := h.1 hc4
          refine z_tableIn (off := 113) (pt := 338) dX12_judges_225 (by rw [hc4]; decide) (by rw [hc4]; decide) (by rw [hc4]; decide) (by decide) ?_
          refine z_aload_n (pc' := 339) dX12_judges_338 rfl rfl ?_
          refine z_iconst (x := 1) (pc' := 340) dX12_judges_339 (by decide) rfl ?_
          obtain ⟨S11, hG⟩ : ∃ z, z = zup S3 416 28 1 := ⟨_, rfl⟩
          have h := h _ hG
          refine r_putI (kf := 28) (pc' := 343) hK dX12_judges_340 kX12_355 rfl (by decide) (by decide) rfl rfl zok_1 ?_
          refine r_st hG ?_
          refine z_goto (pc' := 381) dX12_judges_343 (by decide) ?_
          refine z_iinc (y := x6 + 1) (pc' := 384) dX12_judges_381 rfl (zinc_1 _) (by decide) rfl ?_
          refine z_goto (pc' := 165) dX12_judges_384 (by decide) ?_
          exact z_dr (ls' := [some (.ref (zp 416 0)), none, none, none, none, some (.int x5), some (.int (x6 + 1)), none]) ⟨rfl, rfl, rfl, trivial⟩ h
        have h := h.2
        have h := h hc0 hc1 hc2 hc3 hc4
        refine z_tableOut (pt := 346) dX12_judges_225 (by have e0 := lv_neT (a := 0) hc0 (by decide); have e1 := lv_neT (a := 1) hc1 (by decide); have e2 := lv_neT (a := 2) hc2 (by decide); have e3 := lv_neT (a := 3) hc3 (by decide); have e4 := lv_neT (a := 4) hc4 (by decide); omega) (by decide) ?_
        refine z_aload_n (pc' := 347) dX12_judges_346 rfl rfl ?_
        refine z_aload_n (pc' := 348) dX12_judges_347 rfl rfl ?_
        refine r_getI (kf := 27) (pc' := 351) hK dX12_judges_348 kX12_352 rfl (by decide) (by decide) rfl ?_
        refine z_if_ge (pt := 364) (pc' := 354) dX12_judges_351 (by decide) rfl (fun hc => ?_) (fun hc => ?_)
        · have h := h.1 hc
          refine z_aload_n (pc' := 365) dX12_judges_364 rfl rfl ?_
          refine r_getI (kf := 27) (pc' := 368) hK dX12_judges_365 kX12_352 rfl (by decide) (by decide) rfl ?_
          refine z_aload_n (pc' := 369) dX12_judges_368 rfl rfl ?_
          refine r_getA (kf := 13) (pc' := 372) hK rt_13 dX12_judges_369 kX12_30 rfl (by decide) (by decide) rfl ?_
          refine z_iload (pc' := 374) dX12_judges_372 rfl rfl ?_
          obtain ⟨h1, h⟩ := h
          refine r_iald (pc' := 375) hK rt_13 rfl dX12_judges_374 rfl h1 ?_
          refine r_callSI (Y := mJ9_min_7cf53) (n := 2) (as := [.int (S3 416 27), .int (S3 1113 ((16 * x5) + x6).toNatClampNeg)]) (st := [.ref (zp 416 0)]) (pc' := 378) h dX12_judges_375 kX12_369 sJ9_min_7cf53 rfl rfl (Nat.le_of_ble_eq_true rfl) (fun y12 h => ?_)
          obtain ⟨S13, hG⟩ : ∃ z, z = zup S3 416 27 y12 := ⟨_, rfl⟩
          have h := h _ hG
          refine r_putI (kf := 27) (pc' := 381) hK dX12_judges_378 kX12_352 rfl (by decide) (by decide) rfl rfl (zok_int _) ?_
          refine r_st hG ?_
          refine z_iinc (y := x6 + 1) (pc' := 384) dX12_judges_381 rfl (zinc_1 _) (by decide) rfl ?_
          refine z_goto (pc' := 165) dX12_judges_384 (by decide) ?_
          exact z_dr (ls' := [some (.ref (zp 416 0)), none, none, none, none, some (.int x5), some (.int (x6 + 1)), none]) ⟨rfl, rfl, rfl, trivial⟩ h
        · have h := h.2 hc
          refine z_aload_n (pc' := 355) dX12_judges_354 rfl rfl ?_
          refine r_getA (kf := 13) (pc' := 358) hK rt_13 dX12_judges_355 kX12_30 rfl (by decide) (by decide) rfl ?_
          refine z_iload (pc' := 360) dX12_judges_358 rfl rfl ?_
          obtain ⟨h1, h⟩ := h
          refine r_iald (pc' := 361) hK rt_13 rfl dX12_judges_360 rfl h1 ?_
          refine z_goto (pc' := 378) dX12_judges_361 (by decide) ?_
          obtain ⟨S14, hG⟩ : ∃ z, z = zup S3 416 27 (S3 1113 ((16 * x5) + x6).toNatClampNeg) := ⟨_, rfl⟩
          have h := h _ hG
          refine r_putI (kf := 27) (pc' := 381) hK dX12_judges_378 kX12_352 rfl (by decide) (by decide) rfl rfl (zok_int _) ?_
          refine r_st hG ?_
          refine z_iinc (y := x6 + 1) (pc' := 384) dX12_judges_381 rfl (zinc_1 _) (by decide) rfl ?_
          refine z_goto (pc' := 165) dX12_judges_384 (by decide) ?_
          exact z_dr (ls' := [some (.ref (zp 416 0)), none, none, none, none, some (.int x5), some (.int (x6 + 1)), none]) ⟨rfl, rfl, rfl, trivial⟩ h
      · have h := h.2 hc
        refine z_goto (pc' := 381) dX12_judges_215 (by decide) ?_
        refine z_iinc (y := x6 + 1) (pc' := 384) dX12_judges_381 rfl (zinc_1 _) (by decide) rfl ?_
        refine z_goto (pc' := 165) dX12_judges_384 (by decide) ?_
        exact z_dr (ls' := [some (.ref (zp 416 0)), none, none, none, none, some (.int x5), some (.int (x6 + 1)), none]) ⟨rfl, rfl, rfl, trivial⟩ h
def rwp_X12_lacksOf_0 (E : ZE) (l : Launch) (d b : Nat) (A G : ZG) (Q : Option Value → ZS9 → Prop) (k : Nat) (x1 : Int32) (S : ZS9) : Prop :=
  vp_in x1 120 ∧
  vp_in x1 120 ∧
  Q (some (.int ((S 1159 x1.toNatClampNeg) &&& ((S 1157 x1.toNatClampNeg) ^^^ (-1))))) S
theorem rwpt_X12_lacksOf_0 {E : ZE} {l : Launch} {d b : Nat} {A G : ZG} {Q : Option Value → ZS9 → Prop} {k : Nat} {x1 : Int32} {S : ZS9} (hK : RK G) (h : rwp_X12_lacksOf_0 E l d b A G Q k x1 S) : zW E l mX12_lacksOf d b A (rQ G Q) k 0 [some (.ref (zp 416 0)), some (.int x1)] [] (zput G S) := by
  unfold rwp_X12_lacksOf_0 at h
  refine z_aload_n (pc' := 1) dX12_lacksOf_0 rfl rfl ?_
  refine r_getA (kf := 59) (pc' := 4) hK rt_59 dX12_lacksOf_1 kX12_130 rfl (by decide) (by decide) rfl ?_
  refine z_iload_n (pc' := 5) dX12_lacksOf_4 rfl rfl ?_
  obtain ⟨h1, h⟩ := h
  refine r_iald (pc' := 6) hK rt_59 rfl dX12_lacksOf_5 rfl h1 ?_
  refine z_aload_n (pc' := 7) dX12_lacksOf_6 rfl rfl ?_
  refine r_getA (kf := 57) (pc' := 10) hK rt_57 dX12_lacksOf_7 kX12_124 rfl (by decide) (by decide) rfl ?_
  refine z_iload_n (pc' := 11) dX12_lacksOf_10 rfl rfl ?_
  obtain ⟨h1, h⟩ := h
  refine r_iald (pc' := 12) hK rt_57 rfl dX12_lacksOf_11 rfl h1 ?_
  refine z_iconst (x := (-1)) (pc' := 13) dX12_lacksOf_12 (by decide) rfl ?_
  refine z_ixor (pc' := 14) dX12_lacksOf_13 rfl rfl ?_
  refine z_iand (pc' := 15) dX12_lacksOf_14 rfl rfl ?_
  exact z_iret dX12_lacksOf_15 rfl ⟨_, _, rfl, rfl, h⟩
def rwp_X12_law_0 (E : ZE) (l : Launch) (d b : Nat) (A G : ZG) (Q : Option Value → ZS9 → Prop) (k : Nat) (x1 : Int32) (S : ZS9) : Prop :=
  rcV E l mX12_uses d [] S k (fun S1 k2 =>
  scI E l mX12_in d [.int x1, .int (S1 416 1), .int 1000] (fun y3 =>
  ((¬ y3 = 0 →
    zW E l mX12_law d b A (rQ G Q) k2 24 [some (.ref (zp 416 0)), some (.int x1), none, none] [.int 0, .ref (zp 416 0)] (zput G S1)) ∧
  (¬ (¬ y3 = 0) →
    zW E l mX12_law d b A (rQ G Q) k2 24 [some (.ref (zp 416 0)), some (.int x1), none, none] [.int 1, .ref (zp 416 0)] (zput G S1)))))
theorem rwpt_X12_law_0 {E : ZE} {l : Launch} {d b : Nat} {A G : ZG} {Q : Option Value → ZS9 → Prop} {k : Nat} {x1 : Int32} {S : ZS9} (hK : RK G) (h : rwp_X12_law_0 E l d b A G Q k x1 S) : zW E l mX12_law d b A (rQ G Q) k 0 [some (.ref (zp 416 0)), some (.int x1), none, none] [] (zput G S) := by
  unfold rwp_X12_law_0 at h
  refine z_aload_n (pc' := 1) dX12_law_0 rfl rfl ?_
  refine r_callV (Y := mX12_uses) (n := 0) (as := []) (st := []) (pc' := 4) h hK dX12_law_1 kX12_311 vX12_uses rfl rfl rfl (Nat.le_of_ble_eq_true rfl) (fun S1 k2 h => ?_)
  refine z_aload_n (pc' := 5) dX12_law_4 rfl rfl ?_
  refine z_iload_n (pc' := 6) dX12_law_5 rfl rfl ?_
  refine z_aload_n (pc' := 7) dX12_law_6 rfl rfl ?_
  refine r_getI (kf := 1) (pc' := 10) hK dX12_law_7 kX12_314 rfl (by decide) (by decide) rfl ?_
  refine z_sipush (x := 1000) (pc' := 13) dX12_law_10 (by decide) rfl ?_
  refine r_callSI (Y := mX12_in) (n := 3) (as := [.int x1, .int (S1 416 1), .int 1000]) (st := [.ref (zp 416 0)]) (pc' := 16) h dX12_law_13 kX12_317 sX12_in rfl rfl (Nat.le_of_ble_eq_true rfl) (fun y3 h => ?_)
  refine z_if_ne (pt := 23) (pc' := 19) dX12_law_16 (by decide) rfl (fun hc => ?_) (fun hc => ?_)
  · have h := h.1 hc
    refine z_iconst (x := 0) (pc' := 24) dX12_law_23 (by decide) rfl ?_
    exact z_dr (ls' := [some (.ref (zp 416 0)), some (.int x1), none, none]) ⟨rfl, rfl, trivial⟩ h
  · have h := h.2 hc
    refine z_iconst (x := 1) (pc' := 20) dX12_law_19 (by decide) rfl ?_
    refine z_goto (pc' := 24) dX12_law_20 (by decide) ?_
    exact z_dr (ls' := [some (.ref (zp 416 0)), some (.int x1), none, none]) ⟨rfl, rfl, trivial⟩ h
def rwp_X12_law_24 (E : ZE) (l : Launch) (d b : Nat) (A G : ZG) (Q : Option Value → ZS9 → Prop) (k : Nat) (x1 : Int32) (s0 : Int32) (S : ZS9) : Prop :=
  rcI E l mX12_throwsIf d [.int s0, .int 1] S k (fun y3 S1 k2 =>
  ((y3 = 0 →
    rcI E l mX12_readLaw d [] S1 k2 (fun y6 S4 k5 =>
    ((0 ≤ y6 →
      ∀ S7, S7 = zup S4 416 8 (-1) →
      ((0 ≤ y6 →
        zW E l mX12_law d b A (rQ G Q) k5 64 [some (.ref (zp 416 0)), some (.int x1), some (.int y6), none] [.int 0, .ref (zp 416 0)] (zput G S7)) ∧
      (¬ (0 ≤ y6) →
        zW E l mX12_law d b A (rQ G Q) k5 64 [some (.ref (zp 416 0)), some (.int x1), some (.int y6), none] [.int 1, .ref (zp 416 0)] (zput G S7)))) ∧
    (¬ (0 ≤ y6) →
      ∀ S8, S8 = zup S4 416 8 (S4 416 6) →
      ((0 ≤ y6 →
        zW E l mX12_law d b A (rQ G Q) k5 64 [some (.ref (zp 416 0)), some (.int x1), some (.int y6), none] [.int 0, .ref (zp 416 0)] (zput G S8)) ∧
      (¬ (0 ≤ y6) →
        zW E l mX12_law d b A (rQ G Q) k5 64 [some (.ref (zp 416 0)), some (.int x1), some (.int y6), none] [.int 1, .ref (zp 416 0)] (zput G S8))))))) ∧
  (¬ (y3 = 0) →
    Q (some (.int 0)) S1)))
theorem rwpt_X12_law_24 {E : ZE} {l : Launch} {d b : Nat} {A G : ZG} {Q : Option Value → ZS9 → Prop} {k : Nat} {x1 : Int32} {s0 : Int32} {S : ZS9} (hK : RK G) (h : rwp_X12_law_24 E l d b A G Q k x1 s0 S) : zW E l mX12_law d b A (rQ G Q) k 24 [some (.ref (zp 416 0)), some (.int x1), none, none] [.int s0, .ref (zp 416 0)] (zput G S) := by
  unfold rwp_X12_law_24 at h
  refine z_iconst (x := 1) (pc' := 25) dX12_law_24 (by decide) rfl ?_
  refine r_callI (Y := mX12_throwsIf) (n := 2) (as := [.int s0, .int 1]) (st := []) (pc' := 28) h hK dX12_law_25 kX12_321 vX12_throwsIf rfl rfl rfl (Nat.le_of_ble_eq_true rfl) (fun y3 S1 k2 h => ?_)
  refine z_if_eq (pt := 33) (pc' := 31) dX12_law_28 (by decide) rfl (fun hc => ?_) (fun hc => ?_)
  · have h := h.1 hc
    refine z_aload_n (pc' := 34) dX12_law_33 rfl rfl ?_
    refine r_callI (Y := mX12_readLaw) (n := 0) (as := []) (st := []) (pc' := 37) h hK dX12_law_34 kX12_325 vX12_readLaw rfl rfl rfl (Nat.le_of_ble_eq_true rfl) (fun y6 S4 k5 h => ?_)
    refine z_istore_n (pc' := 38) dX12_law_37 (by decide) rfl ?_
    refine z_aload_n (pc' := 39) dX12_law_38 rfl rfl ?_
    refine z_iload_n (pc' := 40) dX12_law_39 rfl rfl ?_
    refine z_if_ge (pt := 50) (pc' := 43) dX12_law_40 (by decide) rfl (fun hc => ?_) (fun hc => ?_)
    · have h := h.1 hc
      refine z_iconst (x := (-1)) (pc' := 51) dX12_law_50 (by decide) rfl ?_
      obtain ⟨S7, hG⟩ : ∃ z, z = zup S4 416 8 (-1) := ⟨_, rfl⟩
      have h := h _ hG
      refine r_putI (kf := 8) (pc' := 54) hK dX12_law_51 kX12_13 rfl (by decide) (by decide) rfl rfl (zok_int _) ?_
      refine r_st hG ?_
      refine z_aload_n (pc' := 55) dX12_law_54 rfl rfl ?_
      refine z_iload_n (pc' := 56) dX12_law_55 rfl rfl ?_
      refine z_if_ge (pt := 63) (pc' := 59) dX12_law_56 (by decide) rfl (fun hc => ?_) (fun hc => ?_)
      · have h := h.1 hc
        refine z_iconst (x := 0) (pc' := 64) dX12_law_63 (by decide) rfl ?_
        exact z_dr (ls' := [some (.ref (zp 416 0)), some (.int x1), some (.int y6), none]) ⟨rfl, rfl, rfl, trivial⟩ h
      · have h := h.2 hc
        refine z_iconst (x := 1) (pc' := 60) dX12_law_59 (by decide) rfl ?_
        refine z_goto (pc' := 64) dX12_law_60 (by decide) ?_
        exact z_dr (ls' := [some (.ref (zp 416 0)), some (.int x1), some (.int y6), none]) ⟨rfl, rfl, rfl, trivial⟩ h
    · have h := h.2 hc
      refine z_aload_n (pc' := 44) dX12_law_43 rfl rfl ?_
      refine r_getI (kf := 6) (pc' := 47) hK dX12_law_44 kX12_194 rfl (by decide) (by decide) rfl ?_
      refine z_goto (pc' := 51) dX12_law_47 (by decide) ?_
      obtain ⟨S8, hG⟩ : ∃ z, z = zup S4 416 8 (S4 416 6) := ⟨_, rfl⟩
      have h := h _ hG
      refine r_putI (kf := 8) (pc' := 54) hK dX12_law_51 kX12_13 rfl (by decide) (by decide) rfl rfl (zok_int _) ?_
      refine r_st hG ?_
      refine z_aload_n (pc' := 55) dX12_law_54 rfl rfl ?_
      refine z_iload_n (pc' := 56) dX12_law_55 rfl rfl ?_
      refine z_if_ge (pt := 63) (pc' := 59) dX12_law_56 (by decide) rfl (fun hc => ?_) (fun hc => ?_)
      · have h := h.1 hc
        refine z_iconst (x := 0) (pc' := 64) dX12_law_63 (by decide) rfl ?_
        exact z_dr (ls' := [some (.ref (zp 416 0)), some (.int x1), some (.int y6), none]) ⟨rfl, rfl, rfl, trivial⟩ h
      · have h := h.2 hc
        refine z_iconst (x := 1) (pc' := 60) dX12_law_59 (by decide) rfl ?_
        refine z_goto (pc' := 64) dX12_law_60 (by decide) ?_
        exact z_dr (ls' := [some (.ref (zp 416 0)), some (.int x1), some (.int y6), none]) ⟨rfl, rfl, rfl, trivial⟩ h
  · have h := h.2 hc
    refine z_iconst (x := 0) (pc' := 32) dX12_law_31 (by decide) rfl ?_
    exact z_iret dX12_law_32 rfl ⟨_, _, rfl, rfl, h⟩
def rwp_X12_law_64 (E : ZE) (l : Launch) (d b : Nat) (A G : ZG) (Q : Option Value → ZS9 → Prop) (k : Nat) (x1 : Int32) (x2 : Int32) (s0 : Int32) (S : ZS9) : Prop :=
  rcI E l mX12_throwsIf d [.int s0, .int 1] S k (fun y3 S1 k2 =>
  ((¬ y3 = 0 →
    Q (some (.int 0)) S1) ∧
  (¬ (¬ y3 = 0) →
    ((¬ (S1 416 19) = 12 →
      zW E l mX12_law d b A (rQ G Q) k2 86 [some (.ref (zp 416 0)), some (.int x1), some (.int x2), none] [.int 0, .ref (zp 416 0)] (zput G S1)) ∧
    (¬ (¬ (S1 416 19) = 12) →
      zW E l mX12_law d b A (rQ G Q) k2 86 [some (.ref (zp 416 0)), some (.int x1), some (.int x2), none] [.int 1, .ref (zp 416 0)] (zput G S1))))))
theorem rwpt_X12_law_64 {E : ZE} {l : Launch} {d b : Nat} {A G : ZG} {Q : Option Value → ZS9 → Prop} {k : Nat} {x1 : Int32} {x2 : Int32} {s0 : Int32} {S : ZS9} (hK : RK G) (h : rwp_X12_law_64 E l d b A G Q k x1 x2 s0 S) : zW E l mX12_law d b A (rQ G Q) k 64 [some (.ref (zp 416 0)), some (.int x1), some (.int x2), none] [.int s0, .ref (zp 416 0)] (zput G S) := by
  unfold rwp_X12_law_64 at h
  refine z_iconst (x := 1) (pc' := 65) dX12_law_64 (by decide) rfl ?_
  refine r_callI (Y := mX12_throwsIf) (n := 2) (as := [.int s0, .int 1]) (st := []) (pc' := 68) h hK dX12_law_65 kX12_321 vX12_throwsIf rfl rfl rfl (Nat.le_of_ble_eq_true rfl) (fun y3 S1 k2 h => ?_)
  refine z_if_ne (pt := 93) (pc' := 71) dX12_law_68 (by decide) rfl (fun hc => ?_) (fun hc => ?_)
  · have h := h.1 hc
    refine z_iconst (x := 0) (pc' := 94) dX12_law_93 (by decide) rfl ?_
    exact z_iret dX12_law_94 rfl ⟨_, _, rfl, rfl, h⟩
  · have h := h.2 hc
    refine z_aload_n (pc' := 72) dX12_law_71 rfl rfl ?_
    refine z_aload_n (pc' := 73) dX12_law_72 rfl rfl ?_
    refine r_getI (kf := 19) (pc' := 76) hK dX12_law_73 kX12_328 rfl (by decide) (by decide) rfl ?_
    refine z_bipush (x := 12) (pc' := 78) dX12_law_76 (by decide) rfl ?_
    refine z_icmp_ne (pt := 85) (pc' := 81) dX12_law_78 (by decide) rfl (fun hc => ?_) (fun hc => ?_)
    · have h := h.1 hc
      refine z_iconst (x := 0) (pc' := 86) dX12_law_85 (by decide) rfl ?_
      exact z_dr (ls' := [some (.ref (zp 416 0)), some (.int x1), some (.int x2), none]) ⟨rfl, rfl, rfl, trivial⟩ h
    · have h := h.2 hc
      refine z_iconst (x := 1) (pc' := 82) dX12_law_81 (by decide) rfl ?_
      refine z_goto (pc' := 86) dX12_law_82 (by decide) ?_
      exact z_dr (ls' := [some (.ref (zp 416 0)), some (.int x1), some (.int x2), none]) ⟨rfl, rfl, rfl, trivial⟩ h
def rwp_X12_law_86 (E : ZE) (l : Launch) (d b : Nat) (A G : ZG) (Q : Option Value → ZS9 → Prop) (k : Nat) (x1 : Int32) (x2 : Int32) (s0 : Int32) (S : ZS9) : Prop :=
  rcI E l mX12_throwsIf d [.int s0, .int 2] S k (fun y3 S1 k2 =>
  ((y3 = 0 →
    vp_in (S1 416 19) 13 ∧
    ∀ S4, S4 = zup S1 1110 (S1 416 19).toNatClampNeg x1 →
    vp_in (S4 416 19) 13 ∧
    ∀ S5, S5 = zup S4 1111 (S4 416 19).toNatClampNeg x2 →
    zW E l mX12_law d b A (rQ G Q) k2 117 [some (.ref (zp 416 0)), none, some (.int x2), some (.int 0)] [] (zput G S5)) ∧
  (¬ (y3 = 0) →
    Q (some (.int 0)) S1)))
theorem rwpt_X12_law_86 {E : ZE} {l : Launch} {d b : Nat} {A G : ZG} {Q : Option Value → ZS9 → Prop} {k : Nat} {x1 : Int32} {x2 : Int32} {s0 : Int32} {S : ZS9} (hK : RK G) (h : rwp_X12_law_86 E l d b A G Q k x1 x2 s0 S) : zW E l mX12_law d b A (rQ G Q) k 86 [some (.ref (zp 416 0)), some (.int x1), some (.int x2), none] [.int s0, .ref (zp 416 0)] (zput G S) := by
  unfold rwp_X12_law_86 at h
  refine z_iconst (x := 2) (pc' := 87) dX12_law_86 (by decide) rfl ?_
  refine r_callI (Y := mX12_throwsIf) (n := 2) (as := [.int s0, .int 2]) (st := []) (pc' := 90) h hK dX12_law_87 kX12_321 vX12_throwsIf rfl rfl rfl (Nat.le_of_ble_eq_true rfl) (fun y3 S1 k2 h => ?_)
  refine z_if_eq (pt := 95) (pc' := 93) dX12_law_90 (by decide) rfl (fun hc => ?_) (fun hc => ?_)
  · have h := h.1 hc
    refine z_aload_n (pc' := 96) dX12_law_95 rfl rfl ?_
    refine r_getA (kf := 10) (pc' := 99) hK rt_10 dX12_law_96 kX12_21 rfl (by decide) (by decide) rfl ?_
    refine z_aload_n (pc' := 100) dX12_law_99 rfl rfl ?_
    refine r_getI (kf := 19) (pc' := 103) hK dX12_law_100 kX12_328 rfl (by decide) (by decide) rfl ?_
    refine z_iload_n (pc' := 104) dX12_law_103 rfl rfl ?_
    obtain ⟨h1, h⟩ := h
    obtain ⟨S4, hG⟩ : ∃ z, z = zup S1 1110 (S1 416 19).toNatClampNeg x1 := ⟨_, rfl⟩
    have h := h _ hG
    refine r_iast (pc' := 105) hK rt_10 rfl dX12_law_104 rfl h1  ?_
    refine r_st hG ?_
    refine z_aload_n (pc' := 106) dX12_law_105 rfl rfl ?_
    refine r_getA (kf := 11) (pc' := 109) hK rt_11 dX12_law_106 kX12_24 rfl (by decide) (by decide) rfl ?_
    refine z_aload_n (pc' := 110) dX12_law_109 rfl rfl ?_
    refine r_getI (kf := 19) (pc' := 113) hK dX12_law_110 kX12_328 rfl (by decide) (by decide) rfl ?_
    refine z_iload_n (pc' := 114) dX12_law_113 rfl rfl ?_
    obtain ⟨h1, h⟩ := h
    obtain ⟨S5, hG⟩ : ∃ z, z = zup S4 1111 (S4 416 19).toNatClampNeg x2 := ⟨_, rfl⟩
    have h := h _ hG
    refine r_iast (pc' := 115) hK rt_11 rfl dX12_law_114 rfl h1  ?_
    refine r_st hG ?_
    refine z_iconst (x := 0) (pc' := 116) dX12_law_115 (by decide) rfl ?_
    refine z_istore_n (pc' := 117) dX12_law_116 (by decide) rfl ?_
    exact z_dr (ls' := [some (.ref (zp 416 0)), none, some (.int x2), some (.int 0)]) ⟨rfl, rfl, rfl, trivial⟩ h
  · have h := h.2 hc
    refine z_iconst (x := 0) (pc' := 94) dX12_law_93 (by decide) rfl ?_
    exact z_iret dX12_law_94 rfl ⟨_, _, rfl, rfl, h⟩
def rwp_X12_law_117 (E : ZE) (l : Launch) (d b : Nat) (A G : ZG) (Q : Option Value → ZS9 → Prop) (k : Nat) (x2 : Int32) (x3 : Int32) (S : ZS9) : Prop :=
  ((x2 ≤ x3 →
    zW E l mX12_law d b A (rQ G Q) k 226 [some (.ref (zp 416 0)), none, some (.int x2), some (.int 0)] [] (zput G S)) ∧
  (¬ (x2 ≤ x3) →
    vp_in (192 + x3) 208 ∧
    vp_in ((16 * (S 416 19)) + x3) 208 ∧
    ∀ S1, S1 = zup S 1112 ((16 * (S 416 19)) + x3).toNatClampNeg (S 1112 (192 + x3).toNatClampNeg) →
    vp_in (192 + x3) 208 ∧
    vp_in ((16 * (S1 416 19)) + x3) 208 ∧
    ∀ S2, S2 = zup S1 1113 ((16 * (S1 416 19)) + x3).toNatClampNeg (S1 1113 (192 + x3).toNatClampNeg) →
    vp_in (192 + x3) 208 ∧
    vp_in ((16 * (S2 416 19)) + x3) 208 ∧
    ∀ S3, S3 = zup S2 1114 ((16 * (S2 416 19)) + x3).toNatClampNeg (S2 1114 (192 + x3).toNatClampNeg) →
    vp_in (192 + x3) 208 ∧
    vp_in ((16 * (S3 416 19)) + x3) 208 ∧
    ∀ S4, S4 = zup S3 1115 ((16 * (S3 416 19)) + x3).toNatClampNeg (S3 1115 (192 + x3).toNatClampNeg) →
    zW E l mX12_law d b A (rQ G Q) k 117 [some (.ref (zp 416 0)), none, some (.int x2), some (.int (x3 + 1))] [] (zput G S4)))
theorem rwpt_X12_law_117 {E : ZE} {l : Launch} {d b : Nat} {A G : ZG} {Q : Option Value → ZS9 → Prop} {k : Nat} {x2 : Int32} {x3 : Int32} {S : ZS9} (hK : RK G) (h : rwp_X12_law_117 E l d b A G Q k x2 x3 S) : zW E l mX12_law d b A (rQ G Q) k 117 [some (.ref (zp 416 0)), none, some (.int x2), some (.int x3)] [] (zput G S) := by
  unfold rwp_X12_law_117 at h
  refine z_iload_n (pc' := 118) dX12_law_117 rfl rfl ?_
  refine z_iload_n (pc' := 119) dX12_law_118 rfl rfl ?_
  refine z_icmp_ge (pt := 224) (pc' := 122) dX12_law_119 (by decide) rfl (fun hc => ?_) (fun hc => ?_)
  · have h := h.1 hc
    refine z_iconst (x := 0) (pc' := 225) dX12_law_224 (by decide) rfl ?_
    refine z_istore_n (pc' := 226) dX12_law_225 (by decide) rfl ?_
    exact z_dr (ls' := [some (.ref (zp 416 0)), none, some (.int x2), some (.int 0)]) ⟨rfl, rfl, rfl, trivial⟩ h
  · have h := h.2 hc
    refine z_aload_n (pc' := 123) dX12_law_122 rfl rfl ?_
    refine r_getA (kf := 12) (pc' := 126) hK rt_12 dX12_law_123 kX12_27 rfl (by decide) (by decide) rfl ?_
    refine z_bipush (x := 16) (pc' := 128) dX12_law_126 (by decide) rfl ?_
    refine z_aload_n (pc' := 129) dX12_law_128 rfl rfl ?_
    refine r_getI (kf := 19) (pc' := 132) hK dX12_law_129 kX12_328 rfl (by decide) (by decide) rfl ?_
    refine z_imul (pc' := 133) dX12_law_132 rfl rfl ?_
    refine z_iload_n (pc' := 134) dX12_law_133 rfl rfl ?_
    refine z_iadd (pc' := 135) dX12_law_134 rfl rfl ?_
    refine z_aload_n (pc' := 136) dX12_law_135 rfl rfl ?_
    refine r_getA (kf := 12) (pc' := 139) hK rt_12 dX12_law_136 kX12_27 rfl (by decide) (by decide) rfl ?_
    refine z_sipush (x := 192) (pc' := 142) dX12_law_139 (by decide) rfl ?_
    refine z_iload_n (pc' := 143) dX12_law_142 rfl rfl ?_
    refine z_iadd (pc' := 144) dX12_law_143 rfl rfl ?_
    obtain ⟨h1, h⟩ := h
    refine r_iald (pc' := 145) hK rt_12 rfl dX12_law_144 rfl h1 ?_
    obtain ⟨h1, h⟩ := h
    obtain ⟨S1, hG⟩ : ∃ z, z = zup S 1112 ((16 * (S 416 19)) + x3).toNatClampNeg (S 1112 (192 + x3).toNatClampNeg) := ⟨_, rfl⟩
    have h := h _ hG
    refine r_iast (pc' := 146) hK rt_12 rfl dX12_law_145 rfl h1  ?_
    refine r_st hG ?_
    refine z_aload_n (pc' := 147) dX12_law_146 rfl rfl ?_
    refine r_getA (kf := 13) (pc' := 150) hK rt_13 dX12_law_147 kX12_30 rfl (by decide) (by decide) rfl ?_
    refine z_bipush (x := 16) (pc' := 152) dX12_law_150 (by decide) rfl ?_
    refine z_aload_n (pc' := 153) dX12_law_152 rfl rfl ?_
    refine r_getI (kf := 19) (pc' := 156) hK dX12_law_153 kX12_328 rfl (by decide) (by decide) rfl ?_
    refine z_imul (pc' := 157) dX12_law_156 rfl rfl ?_
    refine z_iload_n (pc' := 158) dX12_law_157 rfl rfl ?_
    refine z_iadd (pc' := 159) dX12_law_158 rfl rfl ?_
    refine z_aload_n (pc' := 160) dX12_law_159 rfl rfl ?_
    refine r_getA (kf := 13) (pc' := 163) hK rt_13 dX12_law_160 kX12_30 rfl (by decide) (by decide) rfl ?_
    refine z_sipush (x := 192) (pc' := 166) dX12_law_163 (by decide) rfl ?_
    refine z_iload_n (pc' := 167) dX12_law_166 rfl rfl ?_
    refine z_iadd (pc' := 168) dX12_law_167 rfl rfl ?_
    obtain ⟨h1, h⟩ := h
    refine r_iald (pc' := 169) hK rt_13 rfl dX12_law_168 rfl h1 ?_
    obtain ⟨h1, h⟩ := h
    obtain ⟨S2, hG⟩ : ∃ z, z = zup S1 1113 ((16 * (S1 416 19)) + x3).toNatClampNeg (S1 1113 (192 + x3).toNatClampNeg) := ⟨_, rfl⟩
    have h := h _ hG
    refine r_iast (pc' := 170) hK rt_13 rfl dX12_law_169 rfl h1  ?_
    refine r_st hG ?_
    refine z_aload_n (pc' := 171) dX12_law_170 rfl rfl ?_
    refine r_getA (kf := 14) (pc' := 174) hK rt_14 dX12_law_171 kX12_33 rfl (by decide) (by decide) rfl ?_
    refine z_bipush (x := 16) (pc' := 176) dX12_law_174 (by decide) rfl ?_
    refine z_aload_n (pc' := 177) dX12_law_176 rfl rfl ?_
    refine r_getI (kf := 19) (pc' := 180) hK dX12_law_177 kX12_328 rfl (by decide) (by decide) rfl ?_
    refine z_imul (pc' := 181) dX12_law_180 rfl rfl ?_
    refine z_iload_n (pc' := 182) dX12_law_181 rfl rfl ?_
    refine z_iadd (pc' := 183) dX12_law_182 rfl rfl ?_
    refine z_aload_n (pc' := 184) dX12_law_183 rfl rfl ?_
    refine r_getA (kf := 14) (pc' := 187) hK rt_14 dX12_law_184 kX12_33 rfl (by decide) (by decide) rfl ?_
    refine z_sipush (x := 192) (pc' := 190) dX12_law_187 (by decide) rfl ?_
    refine z_iload_n (pc' := 191) dX12_law_190 rfl rfl ?_
    refine z_iadd (pc' := 192) dX12_law_191 rfl rfl ?_
    obtain ⟨h1, h⟩ := h
    refine r_iald (pc' := 193) hK rt_14 rfl dX12_law_192 rfl h1 ?_
    obtain ⟨h1, h⟩ := h
    obtain ⟨S3, hG⟩ : ∃ z, z = zup S2 1114 ((16 * (S2 416 19)) + x3).toNatClampNeg (S2 1114 (192 + x3).toNatClampNeg) := ⟨_, rfl⟩
    have h := h _ hG
    refine r_iast (pc' := 194) hK rt_14 rfl dX12_law_193 rfl h1  ?_
    refine r_st hG ?_
    refine z_aload_n (pc' := 195) dX12_law_194 rfl rfl ?_
    refine r_getA (kf := 15) (pc' := 198) hK rt_15 dX12_law_195 kX12_36 rfl (by decide) (by decide) rfl ?_
    refine z_bipush (x := 16) (pc' := 200) dX12_law_198 (by decide) rfl ?_
    refine z_aload_n (pc' := 201) dX12_law_200 rfl rfl ?_
    refine r_getI (kf := 19) (pc' := 204) hK dX12_law_201 kX12_328 rfl (by decide) (by decide) rfl ?_
    refine z_imul (pc' := 205) dX12_law_204 rfl rfl ?_
    refine z_iload_n (pc' := 206) dX12_law_205 rfl rfl ?_
    refine z_iadd (pc' := 207) dX12_law_206 rfl rfl ?_
    refine z_aload_n (pc' := 208) dX12_law_207 rfl rfl ?_
    refine r_getA (kf := 15) (pc' := 211) hK rt_15 dX12_law_208 kX12_36 rfl (by decide) (by decide) rfl ?_
    refine z_sipush (x := 192) (pc' := 214) dX12_law_211 (by decide) rfl ?_
    refine z_iload_n (pc' := 215) dX12_law_214 rfl rfl ?_
    refine z_iadd (pc' := 216) dX12_law_215 rfl rfl ?_
    obtain ⟨h1, h⟩ := h
    refine r_iald (pc' := 217) hK rt_15 rfl dX12_law_216 rfl h1 ?_
    obtain ⟨h1, h⟩ := h
    obtain ⟨S4, hG⟩ : ∃ z, z = zup S3 1115 ((16 * (S3 416 19)) + x3).toNatClampNeg (S3 1115 (192 + x3).toNatClampNeg) := ⟨_, rfl⟩
    have h := h _ hG
    refine r_iast (pc' := 218) hK rt_15 rfl dX12_law_217 rfl h1  ?_
    refine r_st hG ?_
    refine z_iinc (y := x3 + 1) (pc' := 221) dX12_law_218 rfl (zinc_1 _) (by decide) rfl ?_
    refine z_goto (pc' := 117) dX12_law_221 (by decide) ?_
    exact z_dr (ls' := [some (.ref (zp 416 0)), none, some (.int x2), some (.int (x3 + 1))]) ⟨rfl, rfl, rfl, trivial⟩ h
def rwp_X12_law_226 (E : ZE) (l : Launch) (d b : Nat) (A G : ZG) (Q : Option Value → ZS9 → Prop) (k : Nat) (x2 : Int32) (x3 : Int32) (S : ZS9) : Prop :=
  (((S 416 20) ≤ x3 →
    ∀ S1, S1 = zup S 416 19 ((S 416 19) + 1) →
    Q (some (.int x2)) S1) ∧
  (¬ ((S 416 20) ≤ x3) →
    vp_in (4800 + x3) 5200 ∧
    vp_in ((400 * (S 416 19)) + x3) 5200 ∧
    ∀ S2, S2 = zup S 1116 ((400 * (S 416 19)) + x3).toNatClampNeg (S 1116 (4800 + x3).toNatClampNeg) →
    vp_in (4800 + x3) 5200 ∧
    vp_in ((400 * (S2 416 19)) + x3) 5200 ∧
    ∀ S3, S3 = zup S2 1117 ((400 * (S2 416 19)) + x3).toNatClampNeg (S2 1117 (4800 + x3).toNatClampNeg) →
    vp_in (4800 + x3) 5200 ∧
    vp_in ((400 * (S3 416 19)) + x3) 5200 ∧
    ∀ S4, S4 = zup S3 1118 ((400 * (S3 416 19)) + x3).toNatClampNeg (S3 1118 (4800 + x3).toNatClampNeg) →
    zW E l mX12_law d b A (rQ G Q) k 226 [some (.ref (zp 416 0)), none, some (.int x2), some (.int (x3 + 1))] [] (zput G S4)))
theorem rwpt_X12_law_226 {E : ZE} {l : Launch} {d b : Nat} {A G : ZG} {Q : Option Value → ZS9 → Prop} {k : Nat} {x2 : Int32} {x3 : Int32} {S : ZS9} (hK : RK G) (h : rwp_X12_law_226 E l d b A G Q k x2 x3 S) : zW E l mX12_law d b A (rQ G Q) k 226 [some (.ref (zp 416 0)), none, some (.int x2), some (.int x3)] [] (zput G S) := by
  unfold rwp_X12_law_226 at h
  refine z_iload_n (pc' := 227) dX12_law_226 rfl rfl ?_
  refine z_aload_n (pc' := 228) dX12_law_227 rfl rfl ?_
  refine r_getI (kf := 20) (pc' := 231) hK dX12_law_228 kX12_217 rfl (by decide) (by decide) rfl ?_
  refine z_icmp_ge (pt := 315) (pc' := 234) dX12_law_231 (by decide) rfl (fun hc => ?_) (fun hc => ?_)
  · have h := h.1 hc
    refine z_aload_n (pc' := 316) dX12_law_315 rfl rfl ?_
    refine z_dup (pc' := 317) dX12_law_316 rfl rfl ?_
    refine r_getI (kf := 19) (pc' := 320) hK dX12_law_317 kX12_328 rfl (by decide) (by decide) rfl ?_
    refine z_iconst (x := 1) (pc' := 321) dX12_law_320 (by decide) rfl ?_
    refine z_iadd (pc' := 322) dX12_law_321 rfl rfl ?_
    obtain ⟨S1, hG⟩ : ∃ z, z = zup S 416 19 ((S 416 19) + 1) := ⟨_, rfl⟩
    have h := h _ hG
    refine r_putI (kf := 19) (pc' := 325) hK dX12_law_322 kX12_328 rfl (by decide) (by decide) rfl rfl (zok_int _) ?_
    refine r_st hG ?_
    refine z_iload_n (pc' := 326) dX12_law_325 rfl rfl ?_
    exact z_iret dX12_law_326 rfl ⟨_, _, rfl, rfl, h⟩
  · have h := h.2 hc
    refine z_aload_n (pc' := 235) dX12_law_234 rfl rfl ?_
    refine r_getA (kf := 16) (pc' := 238) hK rt_16 dX12_law_235 kX12_39 rfl (by decide) (by decide) rfl ?_
    refine z_sipush (x := 400) (pc' := 241) dX12_law_238 (by decide) rfl ?_
    refine z_aload_n (pc' := 242) dX12_law_241 rfl rfl ?_
    refine r_getI (kf := 19) (pc' := 245) hK dX12_law_242 kX12_328 rfl (by decide) (by decide) rfl ?_
    refine z_imul (pc' := 246) dX12_law_245 rfl rfl ?_
    refine z_iload_n (pc' := 247) dX12_law_246 rfl rfl ?_
    refine z_iadd (pc' := 248) dX12_law_247 rfl rfl ?_
    refine z_aload_n (pc' := 249) dX12_law_248 rfl rfl ?_
    refine r_getA (kf := 16) (pc' := 252) hK rt_16 dX12_law_249 kX12_39 rfl (by decide) (by decide) rfl ?_
    refine z_sipush (x := 4800) (pc' := 255) dX12_law_252 (by decide) rfl ?_
    refine z_iload_n (pc' := 256) dX12_law_255 rfl rfl ?_
    refine z_iadd (pc' := 257) dX12_law_256 rfl rfl ?_
    obtain ⟨h1, h⟩ := h
    refine r_iald (pc' := 258) hK rt_16 rfl dX12_law_257 rfl h1 ?_
    obtain ⟨h1, h⟩ := h
    obtain ⟨S2, hG⟩ : ∃ z, z = zup S 1116 ((400 * (S 416 19)) + x3).toNatClampNeg (S 1116 (4800 + x3).toNatClampNeg) := ⟨_, rfl⟩
    have h := h _ hG
    refine r_iast (pc' := 259) hK rt_16 rfl dX12_law_258 rfl h1  ?_
    refine r_st hG ?_
    refine z_aload_n (pc' := 260) dX12_law_259 rfl rfl ?_
    refine r_getA (kf := 17) (pc' := 263) hK rt_17 dX12_law_260 kX12_42 rfl (by decide) (by decide) rfl ?_
    refine z_sipush (x := 400) (pc' := 266) dX12_law_263 (by decide) rfl ?_
    refine z_aload_n (pc' := 267) dX12_law_266 rfl rfl ?_
    refine r_getI (kf := 19) (pc' := 270) hK dX12_law_267 kX12_328 rfl (by decide) (by decide) rfl ?_
    refine z_imul (pc' := 271) dX12_law_270 rfl rfl ?_
    refine z_iload_n (pc' := 272) dX12_law_271 rfl rfl ?_
    refine z_iadd (pc' := 273) dX12_law_272 rfl rfl ?_
    refine z_aload_n (pc' := 274) dX12_law_273 rfl rfl ?_
    refine r_getA (kf := 17) (pc' := 277) hK rt_17 dX12_law_274 kX12_42 rfl (by decide) (by decide) rfl ?_
    refine z_sipush (x := 4800) (pc' := 280) dX12_law_277 (by decide) rfl ?_
    refine z_iload_n (pc' := 281) dX12_law_280 rfl rfl ?_
    refine z_iadd (pc' := 282) dX12_law_281 rfl rfl ?_
    obtain ⟨h1, h⟩ := h
    refine r_iald (pc' := 283) hK rt_17 rfl dX12_law_282 rfl h1 ?_
    obtain ⟨h1, h⟩ := h
    obtain ⟨S3, hG⟩ : ∃ z, z = zup S2 1117 ((400 * (S2 416 19)) + x3).toNatClampNeg (S2 1117 (4800 + x3).toNatClampNeg) := ⟨_, rfl⟩
    have h := h _ hG
    refine r_iast (pc' := 284) hK rt_17 rfl dX12_law_283 rfl h1  ?_
    refine r_st hG ?_
    refine z_aload_n (pc' := 285) dX12_law_284 rfl rfl ?_
    refine r_getA (kf := 18) (pc' := 288) hK rt_18 dX12_law_285 kX12_45 rfl (by decide) (by decide) rfl ?_
    refine z_sipush (x := 400) (pc' := 291) dX12_law_288 (by decide) rfl ?_
    refine z_aload_n (pc' := 292) dX12_law_291 rfl rfl ?_
    refine r_getI (kf := 19) (pc' := 295) hK dX12_law_292 kX12_328 rfl (by decide) (by decide) rfl ?_
    refine z_imul (pc' := 296) dX12_law_295 rfl rfl ?_
    refine z_iload_n (pc' := 297) dX12_law_296 rfl rfl ?_
    refine z_iadd (pc' := 298) dX12_law_297 rfl rfl ?_
    refine z_aload_n (pc' := 299) dX12_law_298 rfl rfl ?_
    refine r_getA (kf := 18) (pc' := 302) hK rt_18 dX12_law_299 kX12_45 rfl (by decide) (by decide) rfl ?_
    refine z_sipush (x := 4800) (pc' := 305) dX12_law_302 (by decide) rfl ?_
    refine z_iload_n (pc' := 306) dX12_law_305 rfl rfl ?_
    refine z_iadd (pc' := 307) dX12_law_306 rfl rfl ?_
    obtain ⟨h1, h⟩ := h
    refine r_iald (pc' := 308) hK rt_18 rfl dX12_law_307 rfl h1 ?_
    obtain ⟨h1, h⟩ := h
    obtain ⟨S4, hG⟩ : ∃ z, z = zup S3 1118 ((400 * (S3 416 19)) + x3).toNatClampNeg (S3 1118 (4800 + x3).toNatClampNeg) := ⟨_, rfl⟩
    have h := h _ hG
    refine r_iast (pc' := 309) hK rt_18 rfl dX12_law_308 rfl h1  ?_
    refine r_st hG ?_
    refine z_iinc (y := x3 + 1) (pc' := 312) dX12_law_309 rfl (zinc_1 _) (by decide) rfl ?_
    refine z_goto (pc' := 226) dX12_law_312 (by decide) ?_
    exact z_dr (ls' := [some (.ref (zp 416 0)), none, some (.int x2), some (.int (x3 + 1))]) ⟨rfl, rfl, rfl, trivial⟩ h
def rwp_X12_lawOf_0 (E : ZE) (l : Launch) (d b : Nat) (A G : ZG) (Q : Option Value → ZS9 → Prop) (k : Nat) (x1 : Int32) (S : ZS9) : Prop :=
  zW E l mX12_lawOf d b A (rQ G Q) k 4 [some (.ref (zp 416 0)), some (.int x1), some (.int (-1)), some (.int 0)] [] (zput G S)
theorem rwpt_X12_lawOf_0 {E : ZE} {l : Launch} {d b : Nat} {A G : ZG} {Q : Option Value → ZS9 → Prop} {k : Nat} {x1 : Int32} {S : ZS9} (hK : RK G) (h : rwp_X12_lawOf_0 E l d b A G Q k x1 S) : zW E l mX12_lawOf d b A (rQ G Q) k 0 [some (.ref (zp 416 0)), some (.int x1), none, none] [] (zput G S) := by
  unfold rwp_X12_lawOf_0 at h
  refine z_iconst (x := (-1)) (pc' := 1) dX12_lawOf_0 (by decide) rfl ?_
  refine z_istore_n (pc' := 2) dX12_lawOf_1 (by decide) rfl ?_
  refine z_iconst (x := 0) (pc' := 3) dX12_lawOf_2 (by decide) rfl ?_
  refine z_istore_n (pc' := 4) dX12_lawOf_3 (by decide) rfl ?_
  exact z_dr (ls' := [some (.ref (zp 416 0)), some (.int x1), some (.int (-1)), some (.int 0)]) ⟨rfl, rfl, rfl, rfl, trivial⟩ h
def rwp_X12_lawOf_4 (E : ZE) (l : Launch) (d b : Nat) (A G : ZG) (Q : Option Value → ZS9 → Prop) (k : Nat) (x1 : Int32) (x2 : Int32) (x3 : Int32) (S : ZS9) : Prop :=
  (((S 416 19) ≤ x3 →
    Q (some (.int x2)) S) ∧
  (¬ ((S 416 19) ≤ x3) →
    vp_in x3 13 ∧
    ((x1 < (S 1110 x3.toNatClampNeg) →
      zW E l mX12_lawOf d b A (rQ G Q) k 4 [some (.ref (zp 416 0)), some (.int x1), some (.int x2), some (.int (x3 + 1))] [] (zput G S)) ∧
    (¬ (x1 < (S 1110 x3.toNatClampNeg)) →
      ((x2 < 0 →
        zW E l mX12_lawOf d b A (rQ G Q) k 4 [some (.ref (zp 416 0)), some (.int x1), some (.int x3), some (.int (x3 + 1))] [] (zput G S)) ∧
      (¬ (x2 < 0) →
        vp_in x3 13 ∧
        vp_in x2 13 ∧
        (((S 1110 x3.toNatClampNeg) < (S 1110 x2.toNatClampNeg) →
          zW E l mX12_lawOf d b A (rQ G Q) k 4 [some (.ref (zp 416 0)), some (.int x1), some (.int x2), some (.int (x3 + 1))] [] (zput G S)) ∧
        (¬ ((S 1110 x3.toNatClampNeg) < (S 1110 x2.toNatClampNeg)) →
          zW E l mX12_lawOf d b A (rQ G Q) k 4 [some (.ref (zp 416 0)), some (.int x1), some (.int x3), some (.int (x3 + 1))] [] (zput G S)))))))))
theorem rwpt_X12_lawOf_4 {E : ZE} {l : Launch} {d b : Nat} {A G : ZG} {Q : Option Value → ZS9 → Prop} {k : Nat} {x1 : Int32} {x2 : Int32} {x3 : Int32} {S : ZS9} (hK : RK G) (h : rwp_X12_lawOf_4 E l d b A G Q k x1 x2 x3 S) : zW E l mX12_lawOf d b A (rQ G Q) k 4 [some (.ref (zp 416 0)), some (.int x1), some (.int x2), some (.int x3)] [] (zput G S) := by
  unfold rwp_X12_lawOf_4 at h
  refine z_iload_n (pc' := 5) dX12_lawOf_4 rfl rfl ?_
  refine z_aload_n (pc' := 6) dX12_lawOf_5 rfl rfl ?_
  refine r_getI (kf := 19) (pc' := 9) hK dX12_lawOf_6 kX12_328 rfl (by decide) (by decide) rfl ?_
  refine z_icmp_ge (pt := 49) (pc' := 12) dX12_lawOf_9 (by decide) rfl (fun hc => ?_) (fun hc => ?_)
  · have h := h.1 hc
    refine z_iload_n (pc' := 50) dX12_lawOf_49 rfl rfl ?_
    exact z_iret dX12_lawOf_50 rfl ⟨_, _, rfl, rfl, h⟩
  · have h := h.2 hc
    refine z_aload_n (pc' := 13) dX12_lawOf_12 rfl rfl ?_
    refine r_getA (kf := 10) (pc' := 16) hK rt_10 dX12_lawOf_13 kX12_21 rfl (by decide) (by decide) rfl ?_
    refine z_iload_n (pc' := 17) dX12_lawOf_16 rfl rfl ?_
    obtain ⟨h1, h⟩ := h
    refine r_iald (pc' := 18) hK rt_10 rfl dX12_lawOf_17 rfl h1 ?_
    refine z_iload_n (pc' := 19) dX12_lawOf_18 rfl rfl ?_
    refine z_icmp_gt (pt := 43) (pc' := 22) dX12_lawOf_19 (by decide) rfl (fun hc => ?_) (fun hc => ?_)
    · have h := h.1 hc
      refine z_iinc (y := x3 + 1) (pc' := 46) dX12_lawOf_43 rfl (zinc_1 _) (by decide) rfl ?_
      refine z_goto (pc' := 4) dX12_lawOf_46 (by decide) ?_
      exact z_dr (ls' := [some (.ref (zp 416 0)), some (.int x1), some (.int x2), some (.int (x3 + 1))]) ⟨rfl, rfl, rfl, rfl, trivial⟩ h
    · have h := h.2 hc
      refine z_iload_n (pc' := 23) dX12_lawOf_22 rfl rfl ?_
      refine z_if_lt (pt := 41) (pc' := 26) dX12_lawOf_23 (by decide) rfl (fun hc => ?_) (fun hc => ?_)
      · have h := h.1 hc
        refine z_iload_n (pc' := 42) dX12_lawOf_41 rfl rfl ?_
        refine z_istore_n (pc' := 43) dX12_lawOf_42 (by decide) rfl ?_
        refine z_iinc (y := x3 + 1) (pc' := 46) dX12_lawOf_43 rfl (zinc_1 _) (by decide) rfl ?_
        refine z_goto (pc' := 4) dX12_lawOf_46 (by decide) ?_
        exact z_dr (ls' := [some (.ref (zp 416 0)), some (.int x1), some (.int x3), some (.int (x3 + 1))]) ⟨rfl, rfl, rfl, rfl, trivial⟩ h
      · have h := h.2 hc
        refine z_aload_n (pc' := 27) dX12_lawOf_26 rfl rfl ?_
        refine r_getA (kf := 10) (pc' := 30) hK rt_10 dX12_lawOf_27 kX12_21 rfl (by decide) (by decide) rfl ?_
        refine z_iload_n (pc' := 31) dX12_lawOf_30 rfl rfl ?_
        obtain ⟨h1, h⟩ := h
        refine r_iald (pc' := 32) hK rt_10 rfl dX12_lawOf_31 rfl h1 ?_
        refine z_aload_n (pc' := 33) dX12_lawOf_32 rfl rfl ?_
        refine r_getA (kf := 10) (pc' := 36) hK rt_10 dX12_lawOf_33 kX12_21 rfl (by decide) (by decide) rfl ?_
        refine z_iload_n (pc' := 37) dX12_lawOf_36 rfl rfl ?_
        obtain ⟨h1, h⟩ := h
        refine r_iald (pc' := 38) hK rt_10 rfl dX12_lawOf_37 rfl h1 ?_
        refine z_icmp_lt (pt := 43) (pc' := 41) dX12_lawOf_38 (by decide) rfl (fun hc => ?_) (fun hc => ?_)
        · have h := h.1 hc
          refine z_iinc (y := x3 + 1) (pc' := 46) dX12_lawOf_43 rfl (zinc_1 _) (by decide) rfl ?_
          refine z_goto (pc' := 4) dX12_lawOf_46 (by decide) ?_
          exact z_dr (ls' := [some (.ref (zp 416 0)), some (.int x1), some (.int x2), some (.int (x3 + 1))]) ⟨rfl, rfl, rfl, rfl, trivial⟩ h
        · have h := h.2 hc
          refine z_iload_n (pc' := 42) dX12_lawOf_41 rfl rfl ?_
          refine z_istore_n (pc' := 43) dX12_lawOf_42 (by decide) rfl ?_
          refine z_iinc (y := x3 + 1) (pc' := 46) dX12_lawOf_43 rfl (zinc_1 _) (by decide) rfl ?_
          refine z_goto (pc' := 4) dX12_lawOf_46 (by decide) ?_
          exact z_dr (ls' := [some (.ref (zp 416 0)), some (.int x1), some (.int x3), some (.int (x3 + 1))]) ⟨rfl, rfl, rfl, rfl, trivial⟩ h
def rwp_X12_led_0 (E : ZE) (l : Launch) (d b : Nat) (A G : ZG) (Q : Option Value → ZS9 → Prop) (k : Nat) (x1 : Int32) (x2 : Int32) (S : ZS9) : Prop :=
  ∀ S1, S1 = zup S 416 0 0 →
  rcI E l mX12_noAsking d [.int x1] S1 k (fun y4 S2 k3 =>
  rcI E l mX12_throwsIf d [.int y4, .int 1] S2 k3 (fun y7 S5 k6 =>
  ((y7 = 0 →
    ((x2 = 0 →
      rcI E l mX12_now d [.int x1, .int 0] S5 k6 (fun y10 S8 k9 =>
      Q (some (.int y10)) S8)) ∧
    ((x2 = 1 →
      vp_in x1 120 ∧
      Q (some (.int (S5 1153 x1.toNatClampNeg))) S5) ∧
    ((x2 = 2 →
      vp_in x1 120 ∧
      Q (some (.int (S5 1154 x1.toNatClampNeg))) S5) ∧
    ((x2 = 3 →
      vp_in x1 120 ∧
      Q (some (.int (S5 1155 x1.toNatClampNeg))) S5) ∧
    ((x2 = 4 →
      vp_in x1 120 ∧
      Q (some (.int (S5 1156 x1.toNatClampNeg))) S5) ∧
    ((x2 = 5 →
      vp_in x1 120 ∧
      Q (some (.int (S5 1157 x1.toNatClampNeg))) S5) ∧
    ((x2 = 6 →
      rcI E l mX12_lacksOf d [.int x1] S5 k6 (fun y13 S11 k12 =>
      Q (some (.int y13)) S11)) ∧
    ((x2 = 7 →
      vp_in x1 120 ∧
      Q (some (.int (S5 1160 x1.toNatClampNeg))) S5) ∧
    ((x2 = 8 →
      rcI E l mX12_now d [.int x1, .int 6] S5 k6 (fun y16 S14 k15 =>
      Q (some (.int y16)) S14)) ∧
    ((x2 = 9 →
      vp_in x1 120 ∧
      Q (some (.int (S5 1162 x1.toNatClampNeg))) S5) ∧
    ((x2 = 10 →
      vp_in x1 120 ∧
      Q (some (.int (S5 1161 x1.toNatClampNeg))) S5) ∧
    ((x2 = 11 →
      rcI E l mX12_now d [.int x1, .int 1] S5 k6 (fun y19 S17 k18 =>
      Q (some (.int y19)) S17)) ∧
    ((x2 = 12 →
      rcI E l mX12_now d [.int x1, .int 2] S5 k6 (fun y22 S20 k21 =>
      Q (some (.int y22)) S20)) ∧
    ((x2 = 13 →
      rcI E l mX12_now d [.int x1, .int 3] S5 k6 (fun y25 S23 k24 =>
      Q (some (.int y25)) S23)) ∧
    ((x2 = 14 →
      rcI E l mX12_now d [.int x1, .int 4] S5 k6 (fun y28 S26 k27 =>
      Q (some (.int y28)) S26)) ∧
    ((x2 = 15 →
      rcI E l mX12_now d [.int x1, .int 5] S5 k6 (fun y31 S29 k30 =>
      Q (some (.int y31)) S29)) ∧
    (¬ x2 = 0 → ¬ x2 = 1 → ¬ x2 = 2 → ¬ x2 = 3 → ¬ x2 = 4 → ¬ x2 = 5 → ¬ x2 = 6 → ¬ x2 = 7 → ¬ x2 = 8 → ¬ x2 = 9 → ¬ x2 = 10 → ¬ x2 = 11 → ¬ x2 = 12 → ¬ x2 = 13 → ¬ x2 = 14 → ¬ x2 = 15 →
      ∀ S32, S32 = zup S5 416 0 2 →
      Q (some (.int 0)) S32)))))))))))))))))) ∧
  (¬ (y7 = 0) →
    Q (some (.int 0)) S5))))
theorem rwpt_X12_led_0 {E : ZE} {l : Launch} {d b : Nat} {A G : ZG} {Q : Option Value → ZS9 → Prop} {k : Nat} {x1 : Int32} {x2 : Int32} {S : ZS9} (hK : RK G) (h : rwp_X12_led_0 E l d b A G Q k x1 x2 S) : zW E l mX12_led d b A (rQ G Q) k 0 [some (.ref (zp 416 0)), some (.int x1), some (.int x2)] [] (zput G S) := by
  unfold rwp_X12_led_0 at h
  refine z_aload_n (pc' := 1) dX12_led_0 rfl rfl ?_
  refine z_iconst (x := 0) (pc' := 2) dX12_led_1 (by decide) rfl ?_
  obtain ⟨S1, hG⟩ : ∃ z, z = zup S 416 0 0 := ⟨_, rfl⟩
  have h := h _ hG
  refine r_putI (kf := 0) (pc' := 5) hK dX12_led_2 kX12_178 rfl (by decide) (by decide) rfl rfl (zok_int _) ?_
  refine r_st hG ?_
  refine z_aload_n (pc' := 6) dX12_led_5 rfl rfl ?_
  refine z_aload_n (pc' := 7) dX12_led_6 rfl rfl ?_
  refine z_iload_n (pc' := 8) dX12_led_7 rfl rfl ?_
  refine r_callI (Y := mX12_noAsking) (n := 1) (as := [.int x1]) (st := [.ref (zp 416 0)]) (pc' := 11) h hK dX12_led_8 kX12_431 vX12_noAsking rfl rfl rfl (Nat.le_of_ble_eq_true rfl) (fun y4 S2 k3 h => ?_)
  refine z_iconst (x := 1) (pc' := 12) dX12_led_11 (by decide) rfl ?_
  refine r_callI (Y := mX12_throwsIf) (n := 2) (as := [.int y4, .int 1]) (st := []) (pc' := 15) h hK dX12_led_12 kX12_321 vX12_throwsIf rfl rfl rfl (Nat.le_of_ble_eq_true rfl) (fun y7 S5 k6 h => ?_)
  refine z_if_eq (pt := 20) (pc' := 18) dX12_led_15 (by decide) rfl (fun hc => ?_) (fun hc => ?_)
  · have h := h.1 hc
    refine z_iload_n (pc' := 21) dX12_led_20 rfl rfl ?_
    by_cases hc0 : x2 = 0
    · have h := h.1 hc0
      refine z_tableIn (off := 79) (pt := 100) dX12_led_21 (by rw [hc0]; decide) (by rw [hc0]; decide) (by rw [hc0]; decide) (by decide) ?_
      refine z_aload_n (pc' := 101) dX12_led_100 rfl rfl ?_
      refine z_iload_n (pc' := 102) dX12_led_101 rfl rfl ?_
      refine z_iconst (x := 0) (pc' := 103) dX12_led_102 (by decide) rfl ?_
      refine r_callI (Y := mX12_now) (n := 2) (as := [.int x1, .int 0]) (st := []) (pc' := 106) h hK dX12_led_103 kX12_434 vX12_now rfl rfl rfl (Nat.le_of_ble_eq_true rfl) (fun y10 S8 k9 h => ?_)
      exact z_iret dX12_led_106 rfl ⟨_, _, rfl, rfl, h⟩
    have h := h.2
    by_cases hc1 : x2 = 1
    · have h := h.1 hc1
      refine z_tableIn (off := 86) (pt := 107) dX12_led_21 (by rw [hc1]; decide) (by rw [hc1]; decide) (by rw [hc1]; decide) (by decide) ?_
      refine z_aload_n (pc' := 108) dX12_led_107 rfl rfl ?_
      refine r_getA (kf := 53) (pc' := 111) hK rt_53 dX12_led_108 kX12_112 rfl (by decide) (by decide) rfl ?_
      refine z_iload_n (pc' := 112) dX12_led_111 rfl rfl ?_
      obtain ⟨h1, h⟩ := h
      refine r_iald (pc' := 113) hK rt_53 rfl dX12_led_112 rfl h1 ?_
      exact z_iret dX12_led_113 rfl ⟨_, _, rfl, rfl, h⟩
    have h := h.2
    by_cases hc2 : x2 = 2
    · have h := h.1 hc2
      refine z_tableIn (off := 93) (pt := 114) dX12_led_21 (by rw [hc2]; decide) (by rw [hc2]; decide) (by rw [hc2]; decide) (by decide) ?_
      refine z_aload_n (pc' := 115) dX12_led_114 rfl rfl ?_
      refine r_getA (kf := 54) (pc' := 118) hK rt_54 dX12_led_115 kX12_115 rfl (by decide) (by decide) rfl ?_
      refine z_iload_n (pc' := 119) dX12_led_118 rfl rfl ?_
      obtain ⟨h1, h⟩ := h
      refine r_iald (pc' := 120) hK rt_54 rfl dX12_led_119 rfl h1 ?_
      exact z_iret dX12_led_120 rfl ⟨_, _, rfl, rfl, h⟩
    have h := h.2
    by_cases hc3 : x2 = 3
    · have h := h.1 hc3
      refine z_tableIn (off := 100) (pt := 121) dX12_led_21 (by rw [hc3]; decide) (by rw [hc3]; decide) (by rw [hc3]; decide) (by decide) ?_
      refine z_aload_n (pc' := 122) dX12_led_121 rfl rfl ?_
      refine r_getA (kf := 55) (pc' := 125) hK rt_55 dX12_led_122 kX12_118 rfl (by decide) (by decide) rfl ?_
      refine z_iload_n (pc' := 126) dX12_led_125 rfl rfl ?_
      obtain ⟨h1, h⟩ := h
      refine r_iald (pc' := 127) hK rt_55 rfl dX12_led_126 rfl h1 ?_
      exact z_iret dX12_led_127 rfl ⟨_, _, rfl, rfl, h⟩
    have h := h.2
    by_cases hc4 : x2 = 4
    · have h := h.1 hc4
      refine z_tableIn (off := 107) (pt := 128) dX12_led_21 (by rw [hc4]; decide) (by rw [hc4]; decide) (by rw [hc4]; decide) (by decide) ?_
      refine z_aload_n (pc' := 129) dX12_led_128 rfl rfl ?_
      refine r_getA (kf := 56) (pc' := 132) hK rt_56 dX12_led_129 kX12_121 rfl (by decide) (by decide) rfl ?_
      refine z_iload_n (pc' := 133) dX12_led_132 rfl rfl ?_
      obtain ⟨h1, h⟩ := h
      refine r_iald (pc' := 134) hK rt_56 rfl dX12_led_133 rfl h1 ?_
      exact z_iret dX12_led_134 rfl ⟨_, _, rfl, rfl, h⟩
    have h := h.2
    by_cases hc5 : x2 = 5
    · have h := h.1 hc5
      refine z_tableIn (off := 114) (pt := 135) dX12_led_21 (by rw [hc5]; decide) (by rw [hc5]; decide) (by rw [hc5]; decide) (by decide) ?_
      refine z_aload_n (pc' := 136) dX12_led_135 rfl rfl ?_
      refine r_getA (kf := 57) (pc' := 139) hK rt_57 dX12_led_136 kX12_124 rfl (by decide) (by decide) rfl ?_
      refine z_iload_n (pc' := 140) dX12_led_139 rfl rfl ?_
      obtain ⟨h1, h⟩ := h
      refine r_iald (pc' := 141) hK rt_57 rfl dX12_led_140 rfl h1 ?_
      exact z_iret dX12_led_141 rfl ⟨_, _, rfl, rfl, h⟩
    have h := h.2
    by_cases hc6 : x2 = 6
    · have h := h.1 hc6
      refine z_tableIn (off := 121) (pt := 142) dX12_led_21 (by rw [hc6]; decide) (by rw [hc6]; decide) (by rw [hc6]; decide) (by decide) ?_
      refine z_aload_n (pc' := 143) dX12_led_142 rfl rfl ?_
      refine z_iload_n (pc' := 144) dX12_led_143 rfl rfl ?_
      refine r_callI (Y := mX12_lacksOf) (n := 1) (as := [.int x1]) (st := []) (pc' := 147) h hK dX12_led_144 kX12_437 vX12_lacksOf rfl rfl rfl (Nat.le_of_ble_eq_true rfl) (fun y13 S11 k12 h => ?_)
      exact z_iret dX12_led_147 rfl ⟨_, _, rfl, rfl, h⟩
    have h := h.2
    by_cases hc7 : x2 = 7
    · have h := h.1 hc7
      refine z_tableIn (off := 127) (pt := 148) dX12_led_21 (by rw [hc7]; decide) (by rw [hc7]; decide) (by rw [hc7]; decide) (by decide) ?_
      refine z_aload_n (pc' := 149) dX12_led_148 rfl rfl ?_
      refine r_getA (kf := 60) (pc' := 152) hK rt_60 dX12_led_149 kX12_133 rfl (by decide) (by decide) rfl ?_
      refine z_iload_n (pc' := 153) dX12_led_152 rfl rfl ?_
      obtain ⟨h1, h⟩ := h
      refine r_iald (pc' := 154) hK rt_60 rfl dX12_led_153 rfl h1 ?_
      exact z_iret dX12_led_154 rfl ⟨_, _, rfl, rfl, h⟩
    have h := h.2
    by_cases hc8 : x2 = 8
    · have h := h.1 hc8
      refine z_tableIn (off := 134) (pt := 155) dX12_led_21 (by rw [hc8]; decide) (by rw [hc8]; decide) (by rw [hc8]; decide) (by decide) ?_
      refine z_aload_n (pc' := 156) dX12_led_155 rfl rfl ?_
      refine z_iload_n (pc' := 157) dX12_led_156 rfl rfl ?_
      refine z_bipush (x := 6) (pc' := 159) dX12_led_157 (by decide) rfl ?_
      refine r_callI (Y := mX12_now) (n := 2) (as := [.int x1, .int 6]) (st := []) (pc' := 162) h hK dX12_led_159 kX12_434 vX12_now rfl rfl rfl (Nat.le_of_ble_eq_true rfl) (fun y16 S14 k15 h => ?_)
      exact z_iret dX12_led_162 rfl ⟨_, _, rfl, rfl, h⟩
    have h := h.2
    by_cases hc9 : x2 = 9
    · have h := h.1 hc9
      refine z_tableIn (off := 142) (pt := 163) dX12_led_21 (by rw [hc9]; decide) (by rw [hc9]; decide) (by rw [hc9]; decide) (by decide) ?_
      refine z_aload_n (pc' := 164) dX12_led_163 rfl rfl ?_
      refine r_getA (kf := 62) (pc' := 167) hK rt_62 dX12_led_164 kX12_139 rfl (by decide) (by decide) rfl ?_
      refine z_iload_n (pc' := 168) dX12_led_167 rfl rfl ?_
      obtain ⟨h1, h⟩ := h
      refine r_iald (pc' := 169) hK rt_62 rfl dX12_led_168 rfl h1 ?_
      exact z_iret dX12_led_169 rfl ⟨_, _, rfl, rfl, h⟩
    have h := h.2
    by_cases hc10 : x2 = 10
    · have h := h.1 hc10
      refine z_tableIn (off := 149) (pt := 170) dX12_led_21 (by rw [hc10]; decide) (by rw [hc10]; decide) (by rw [hc10]; decide) (by decide) ?_
      refine z_aload_n (pc' := 171) dX12_led_170 rfl rfl ?_
      refine r_getA (kf := 61) (pc' := 174) hK rt_61 dX12_led_171 kX12_136 rfl (by decide) (by decide) rfl ?_
      refine z_iload_n (pc' := 175) dX12_led_174 rfl rfl ?_
      obtain ⟨h1, h⟩ := h
      refine r_iald (pc' := 176) hK rt_61 rfl dX12_led_175 rfl h1 ?_
      exact z_iret dX12_led_176 rfl ⟨_, _, rfl, rfl, h⟩
    have h := h.2
    by_cases hc11 : x2 = 11
    · have h := h.1 hc11
      refine z_tableIn (off := 156) (pt := 177) dX12_led_21 (by rw [hc11]; decide) (by rw [hc11]; decide) (by rw [hc11]; decide) (by decide) ?_
      refine z_aload_n (pc' := 178) dX12_led_177 rfl rfl ?_
      refine z_iload_n (pc' := 179) dX12_led_178 rfl rfl ?_
      refine z_iconst (x := 1) (pc' := 180) dX12_led_179 (by decide) rfl ?_
      refine r_callI (Y := mX12_now) (n := 2) (as := [.int x1, .int 1]) (st := []) (pc' := 183) h hK dX12_led_180 kX12_434 vX12_now rfl rfl rfl (Nat.le_of_ble_eq_true rfl) (fun y19 S17 k18 h => ?_)
      exact z_iret dX12_led_183 rfl ⟨_, _, rfl, rfl, h⟩
    have h := h.2
    by_cases hc12 : x2 = 12
    · have h := h.1 hc12
      refine z_tableIn (off := 163) (pt := 184) dX12_led_21 (by rw [hc12]; decide) (by rw [hc12]; decide) (by rw [hc12]; decide) (by decide) ?_
      refine z_aload_n (pc' := 185) dX12_led_184 rfl rfl ?_
      refine z_iload_n (pc' := 186) dX12_led_185 rfl rfl ?_
      refine z_iconst (x := 2) (pc' := 187) dX12_led_186 (by decide) rfl ?_
      refine r_callI (Y := mX12_now) (n := 2) (as := [.int x1, .int 2]) (st := []) (pc' := 190) h hK dX12_led_187 kX12_434 vX12_now rfl rfl rfl (Nat.le_of_ble_eq_true rfl) (fun y22 S20 k21 h => ?_)
      exact z_iret dX12_led_190 rfl ⟨_, _, rfl, rfl, h⟩
    have h := h.2
    by_cases hc13 : x2 = 13
    · have h := h.1 hc13
      refine z_tableIn (off := 170) (pt := 191) dX12_led_21 (by rw [hc13]; decide) (by rw [hc13]; decide) (by rw [hc13]; decide) (by decide) ?_
      refine z_aload_n (pc' := 192) dX12_led_191 rfl rfl ?_
      refine z_iload_n (pc' := 193) dX12_led_192 rfl rfl ?_
      refine z_iconst (x := 3) (pc' := 194) dX12_led_193 (by decide) rfl ?_
      refine r_callI (Y := mX12_now) (n := 2) (as := [.int x1, .int 3]) (st := []) (pc' := 197) h hK dX12_led_194 kX12_434 vX12_now rfl rfl rfl (Nat.le_of_ble_eq_true rfl) (fun y25 S23 k24 h => ?_)
      exact z_iret dX12_led_197 rfl ⟨_, _, rfl, rfl, h⟩
    have h := h.2
    by_cases hc14 : x2 = 14
    · have h := h.1 hc14
      refine z_tableIn (off := 177) (pt := 198) dX12_led_21 (by rw [hc14]; decide) (by rw [hc14]; decide) (by rw [hc14]; decide) (by decide) ?_
      refine z_aload_n (pc' := 199) dX12_led_198 rfl rfl ?_
      refine z_iload_n (pc' := 200) dX12_led_199 rfl rfl ?_
      refine z_iconst (x := 4) (pc' := 201) dX12_led_200 (by decide) rfl ?_
      refine r_callI (Y := mX12_now) (n := 2) (as := [.int x1, .int 4]) (st := []) (pc' := 204) h hK dX12_led_201 kX12_434 vX12_now rfl rfl rfl (Nat.le_of_ble_eq_true rfl) (fun y28 S26 k27 h => ?_)
      exact z_iret dX12_led_204 rfl ⟨_, _, rfl, rfl, h⟩
    have h := h.2
    by_cases hc15 : x2 = 15
    · have h := h.1 hc15
      refine z_tableIn (off := 184) (pt := 205) dX12_led_21 (by rw [hc15]; decide) (by rw [hc15]; decide) (by rw [hc15]; decide) (by decide) ?_
      refine z_aload_n (pc' := 206) dX12_led_205 rfl rfl ?_
      refine z_iload_n (pc' := 207) dX12_led_206 rfl rfl ?_
      refine z_iconst (x := 5) (pc' := 208) dX12_led_207 (by decide) rfl ?_
      refine r_callI (Y := mX12_now) (n := 2) (as := [.int x1, .int 5]) (st := []) (pc' := 211) h hK dX12_led_208 kX12_434 vX12_now rfl rfl rfl (Nat.le_of_ble_eq_true rfl) (fun y31 S29 k30 h => ?_)
      exact z_iret dX12_led_211 rfl ⟨_, _, rfl, rfl, h⟩
    have h := h.2
    have h := h hc0 hc1 hc2 hc3 hc4 hc5 hc6 hc7 hc8 hc9 hc10 hc11 hc12 hc13 hc14 hc15
    refine z_tableOut (pt := 212) dX12_led_21 (by have e0 := lv_neT (a := 0) hc0 (by decide); have e1 := lv_neT (a := 1) hc1 (by decide); have e2 := lv_neT (a := 2) hc2 (by decide); have e3 := lv_neT (a := 3) hc3 (by decide); have e4 := lv_neT (a := 4) hc4 (by decide); have e5 := lv_neT (a := 5) hc5 (by decide); have e6 := lv_neT (a := 6) hc6 (by decide); have e7 := lv_neT (a := 7) hc7 (by decide); have e8 := lv_neT (a := 8) hc8 (by decide); have e9 := lv_neT (a := 9) hc9 (by decide); have e10 := lv_neT (a := 10) hc10 (by decide); have e11 := lv_neT (a := 11) hc11 (by decide); have e12 := lv_neT (a := 12) hc12 (by decide); have e13 := lv_neT (a := 13) hc13 (by decide); have e14 := lv_neT (a := 14) hc14 (by decide); have e15 := lv_neT (a := 15) hc15 (by decide); omega) (by decide) ?_
    refine z_aload_n (pc' := 213) dX12_led_212 rfl rfl ?_
    refine z_iconst (x := 2) (pc' := 214) dX12_led_213 (by decide) rfl ?_
    obtain ⟨S32, hG⟩ : ∃ z, z = zup S5 416 0 2 := ⟨_, rfl⟩
    have h := h _ hG
    refine r_putI (kf := 0) (pc' := 217) hK dX12_led_214 kX12_178 rfl (by decide) (by decide) rfl rfl (zok_int _) ?_
    refine r_st hG ?_
    refine z_iconst (x := 0) (pc' := 218) dX12_led_217 (by decide) rfl ?_
    exact z_iret dX12_led_218 rfl ⟨_, _, rfl, rfl, h⟩
  · have h := h.2 hc
    refine z_iconst (x := 0) (pc' := 19) dX12_led_18 (by decide) rfl ?_
    exact z_iret dX12_led_19 rfl ⟨_, _, rfl, rfl, h⟩
def rwp_X12_lend_0 (E : ZE) (l : Launch) (d b : Nat) (A G : ZG) (Q : Option Value → ZS9 → Prop) (k : Nat) (x1 : Int32) (x2 : Int32) (x3 : Int32) (x4 : Int32) (x5 : Int32) (S : ZS9) : Prop :=
  ∀ S1, S1 = zup S 416 0 0 →
  scI E l mX12_noDesk d [.int x1] (fun y2 =>
  rcI E l mX12_throwsIf d [.int y2, .int 1] S1 k (fun y5 S3 k4 =>
  ((¬ y5 = 0 →
    Q (some (.int 0)) S3) ∧
  (¬ (¬ y5 = 0) →
    scI E l mX12_in d [.int x2, .int 1, .int 30] (fun y6 =>
    ((y6 = 0 →
      zW E l mX12_lend d b A (rQ G Q) k4 66 [some (.ref (zp 416 0)), some (.int x1), some (.int x2), some (.int x3), some (.int x4), some (.int x5)] [.int 1, .ref (zp 416 0)] (zput G S3)) ∧
    (¬ (y6 = 0) →
      ((x3 < (S3 416 1) →
        zW E l mX12_lend d b A (rQ G Q) k4 66 [some (.ref (zp 416 0)), some (.int x1), some (.int x2), some (.int x3), some (.int x4), some (.int x5)] [.int 1, .ref (zp 416 0)] (zput G S3)) ∧
      (¬ (x3 < (S3 416 1)) →
        ((x4 < x3 →
          zW E l mX12_lend d b A (rQ G Q) k4 66 [some (.ref (zp 416 0)), some (.int x1), some (.int x2), some (.int x3), some (.int x4), some (.int x5)] [.int 1, .ref (zp 416 0)] (zput G S3)) ∧
        (¬ (x4 < x3) →
          ((1000 < x4 →
            zW E l mX12_lend d b A (rQ G Q) k4 66 [some (.ref (zp 416 0)), some (.int x1), some (.int x2), some (.int x3), some (.int x4), some (.int x5)] [.int 1, .ref (zp 416 0)] (zput G S3)) ∧
          (¬ (1000 < x4) →
            scI E l mX12_in d [.int x5, .int 0, .int 30] (fun y7 =>
            ((¬ y7 = 0 →
              zW E l mX12_lend d b A (rQ G Q) k4 66 [some (.ref (zp 416 0)), some (.int x1), some (.int x2), some (.int x3), some (.int x4), some (.int x5)] [.int 0, .ref (zp 416 0)] (zput G S3)) ∧
            (¬ (¬ y7 = 0) →
              zW E l mX12_lend d b A (rQ G Q) k4 66 [some (.ref (zp 416 0)), some (.int x1), some (.int x2), some (.int x3), some (.int x4), some (.int x5)] [.int 1, .ref (zp 416 0)] (zput G S3)))))))))))))))))
theorem rwpt_X12_lend_0 {E : ZE} {l : Launch} {d b : Nat} {A G : ZG} {Q : Option Value → ZS9 → Prop} {k : Nat} {x1 : Int32} {x2 : Int32} {x3 : Int32} {x4 : Int32} {x5 : Int32} {S : ZS9} (hK : RK G) (h : rwp_X12_lend_0 E l d b A G Q k x1 x2 x3 x4 x5 S) : zW E l mX12_lend d b A (rQ G Q) k 0 [some (.ref (zp 416 0)), some (.int x1), some (.int x2), some (.int x3), some (.int x4), some (.int x5)] [] (zput G S) := by
  unfold rwp_X12_lend_0 at h
  refine z_aload_n (pc' := 1) dX12_lend_0 rfl rfl ?_
  refine z_iconst (x := 0) (pc' := 2) dX12_lend_1 (by decide) rfl ?_
  obtain ⟨S1, hG⟩ : ∃ z, z = zup S 416 0 0 := ⟨_, rfl⟩
  have h := h _ hG
  refine r_putI (kf := 0) (pc' := 5) hK dX12_lend_2 kX12_178 rfl (by decide) (by decide) rfl rfl (zok_int _) ?_
  refine r_st hG ?_
  refine z_aload_n (pc' := 6) dX12_lend_5 rfl rfl ?_
  refine z_iload_n (pc' := 7) dX12_lend_6 rfl rfl ?_
  refine r_callSI (Y := mX12_noDesk) (n := 1) (as := [.int x1]) (st := [.ref (zp 416 0)]) (pc' := 10) h dX12_lend_7 kX12_394 sX12_noDesk rfl rfl (Nat.le_of_ble_eq_true rfl) (fun y2 h => ?_)
  refine z_iconst (x := 1) (pc' := 11) dX12_lend_10 (by decide) rfl ?_
  refine r_callI (Y := mX12_throwsIf) (n := 2) (as := [.int y2, .int 1]) (st := []) (pc' := 14) h hK dX12_lend_11 kX12_321 vX12_throwsIf rfl rfl rfl (Nat.le_of_ble_eq_true rfl) (fun y5 S3 k4 h => ?_)
  refine z_if_ne (pt := 73) (pc' := 17) dX12_lend_14 (by decide) rfl (fun hc => ?_) (fun hc => ?_)
  · have h := h.1 hc
    refine z_iconst (x := 0) (pc' := 74) dX12_lend_73 (by decide) rfl ?_
    exact z_iret dX12_lend_74 rfl ⟨_, _, rfl, rfl, h⟩
  · have h := h.2 hc
    refine z_aload_n (pc' := 18) dX12_lend_17 rfl rfl ?_
    refine z_iload_n (pc' := 19) dX12_lend_18 rfl rfl ?_
    refine z_iconst (x := 1) (pc' := 20) dX12_lend_19 (by decide) rfl ?_
    refine z_bipush (x := 30) (pc' := 22) dX12_lend_20 (by decide) rfl ?_
    refine r_callSI (Y := mX12_in) (n := 3) (as := [.int x2, .int 1, .int 30]) (st := [.ref (zp 416 0)]) (pc' := 25) h dX12_lend_22 kX12_317 sX12_in rfl rfl (Nat.le_of_ble_eq_true rfl) (fun y6 h => ?_)
    refine z_if_eq (pt := 61) (pc' := 28) dX12_lend_25 (by decide) rfl (fun hc => ?_) (fun hc => ?_)
    · have h := h.1 hc
      refine z_iconst (x := 1) (pc' := 62) dX12_lend_61 (by decide) rfl ?_
      refine z_goto (pc' := 66) dX12_lend_62 (by decide) ?_
      exact z_dr (ls' := [some (.ref (zp 416 0)), some (.int x1), some (.int x2), some (.int x3), some (.int x4), some (.int x5)]) ⟨rfl, rfl, rfl, rfl, rfl, rfl, trivial⟩ h
    · have h := h.2 hc
      refine z_iload_n (pc' := 29) dX12_lend_28 rfl rfl ?_
      refine z_aload_n (pc' := 30) dX12_lend_29 rfl rfl ?_
      refine r_getI (kf := 1) (pc' := 33) hK dX12_lend_30 kX12_314 rfl (by decide) (by decide) rfl ?_
      refine z_icmp_lt (pt := 61) (pc' := 36) dX12_lend_33 (by decide) rfl (fun hc => ?_) (fun hc => ?_)
      · have h := h.1 hc
        refine z_iconst (x := 1) (pc' := 62) dX12_lend_61 (by decide) rfl ?_
        refine z_goto (pc' := 66) dX12_lend_62 (by decide) ?_
        exact z_dr (ls' := [some (.ref (zp 416 0)), some (.int x1), some (.int x2), some (.int x3), some (.int x4), some (.int x5)]) ⟨rfl, rfl, rfl, rfl, rfl, rfl, trivial⟩ h
      · have h := h.2 hc
        refine z_iload (pc' := 38) dX12_lend_36 rfl rfl ?_
        refine z_iload_n (pc' := 39) dX12_lend_38 rfl rfl ?_
        refine z_icmp_lt (pt := 61) (pc' := 42) dX12_lend_39 (by decide) rfl (fun hc => ?_) (fun hc => ?_)
        · have h := h.1 hc
          refine z_iconst (x := 1) (pc' := 62) dX12_lend_61 (by decide) rfl ?_
          refine z_goto (pc' := 66) dX12_lend_62 (by decide) ?_
          exact z_dr (ls' := [some (.ref (zp 416 0)), some (.int x1), some (.int x2), some (.int x3), some (.int x4), some (.int x5)]) ⟨rfl, rfl, rfl, rfl, rfl, rfl, trivial⟩ h
        · have h := h.2 hc
          refine z_iload (pc' := 44) dX12_lend_42 rfl rfl ?_
          refine z_sipush (x := 1000) (pc' := 47) dX12_lend_44 (by decide) rfl ?_
          refine z_icmp_gt (pt := 61) (pc' := 50) dX12_lend_47 (by decide) rfl (fun hc => ?_) (fun hc => ?_)
          · have h := h.1 hc
            refine z_iconst (x := 1) (pc' := 62) dX12_lend_61 (by decide) rfl ?_
            refine z_goto (pc' := 66) dX12_lend_62 (by decide) ?_
            exact z_dr (ls' := [some (.ref (zp 416 0)), some (.int x1), some (.int x2), some (.int x3), some (.int x4), some (.int x5)]) ⟨rfl, rfl, rfl, rfl, rfl, rfl, trivial⟩ h
          · have h := h.2 hc
            refine z_iload (pc' := 52) dX12_lend_50 rfl rfl ?_
            refine z_iconst (x := 0) (pc' := 53) dX12_lend_52 (by decide) rfl ?_
            refine z_bipush (x := 30) (pc' := 55) dX12_lend_53 (by decide) rfl ?_
            refine r_callSI (Y := mX12_in) (n := 3) (as := [.int x5, .int 0, .int 30]) (st := [.ref (zp 416 0)]) (pc' := 58) h dX12_lend_55 kX12_317 sX12_in rfl rfl (Nat.le_of_ble_eq_true rfl) (fun y7 h => ?_)
            refine z_if_ne (pt := 65) (pc' := 61) dX12_lend_58 (by decide) rfl (fun hc => ?_) (fun hc => ?_)
            · have h := h.1 hc
              refine z_iconst (x := 0) (pc' := 66) dX12_lend_65 (by decide) rfl ?_
              exact z_dr (ls' := [some (.ref (zp 416 0)), some (.int x1), some (.int x2), some (.int x3), some (.int x4), some (.int x5)]) ⟨rfl, rfl, rfl, rfl, rfl, rfl, trivial⟩ h
            · have h := h.2 hc
              refine z_iconst (x := 1) (pc' := 62) dX12_lend_61 (by decide) rfl ?_
              refine z_goto (pc' := 66) dX12_lend_62 (by decide) ?_
              exact z_dr (ls' := [some (.ref (zp 416 0)), some (.int x1), some (.int x2), some (.int x3), some (.int x4), some (.int x5)]) ⟨rfl, rfl, rfl, rfl, rfl, rfl, trivial⟩ h
def rwp_X12_lend_66 (E : ZE) (l : Launch) (d b : Nat) (A G : ZG) (Q : Option Value → ZS9 → Prop) (k : Nat) (x1 : Int32) (x2 : Int32) (x3 : Int32) (x4 : Int32) (x5 : Int32) (s0 : Int32) (S : ZS9) : Prop :=
  rcI E l mX12_throwsIf d [.int s0, .int 2] S k (fun y3 S1 k2 =>
  ((y3 = 0 →
    ((¬ (S1 416 52) = 20 →
      vp_in (S1 416 52) 20 ∧
      ∀ S4, S4 = zup S1 1147 (S1 416 52).toNatClampNeg x1 →
      vp_in (S4 416 52) 20 ∧
      ∀ S5, S5 = zup S4 1148 (S4 416 52).toNatClampNeg x2 →
      vp_in (S5 416 52) 20 ∧
      ∀ S6, S6 = zup S5 1149 (S5 416 52).toNatClampNeg x3 →
      vp_in (S6 416 52) 20 ∧
      ∀ S7, S7 = zup S6 1150 (S6 416 52).toNatClampNeg x4 →
      vp_in (S7 416 52) 20 ∧
      ∀ S8, S8 = zup S7 1151 (S7 416 52).toNatClampNeg x5 →
      ∀ S9, S9 = zup S8 416 52 ((S8 416 52) + 1) →
      Q (some (.int (S9 416 52))) S9) ∧
    (¬ (¬ (S1 416 52) = 20) →
      Q (some (.int (-1))) S1))) ∧
  (¬ (y3 = 0) →
    Q (some (.int 0)) S1)))
theorem rwpt_X12_lend_66 {E : ZE} {l : Launch} {d b : Nat} {A G : ZG} {Q : Option Value → ZS9 → Prop} {k : Nat} {x1 : Int32} {x2 : Int32} {x3 : Int32} {x4 : Int32} {x5 : Int32} {s0 : Int32} {S : ZS9} (hK : RK G) (h : rwp_X12_lend_66 E l d b A G Q k x1 x2 x3 x4 x5 s0 S) : zW E l mX12_lend d b A (rQ G Q) k 66 [some (.ref (zp 416 0)), some (.int x1), some (.int x2), some (.int x3), some (.int x4), some (.int x5)] [.int s0, .ref (zp 416 0)] (zput G S) := by
  unfold rwp_X12_lend_66 at h
  refine z_iconst (x := 2) (pc' := 67) dX12_lend_66 (by decide) rfl ?_
  refine r_callI (Y := mX12_throwsIf) (n := 2) (as := [.int s0, .int 2]) (st := []) (pc' := 70) h hK dX12_lend_67 kX12_321 vX12_throwsIf rfl rfl rfl (Nat.le_of_ble_eq_true rfl) (fun y3 S1 k2 h => ?_)
  refine z_if_eq (pt := 75) (pc' := 73) dX12_lend_70 (by decide) rfl (fun hc => ?_) (fun hc => ?_)
  · have h := h.1 hc
    refine z_aload_n (pc' := 76) dX12_lend_75 rfl rfl ?_
    refine r_getI (kf := 52) (pc' := 79) hK dX12_lend_76 kX12_397 rfl (by decide) (by decide) rfl ?_
    refine z_bipush (x := 20) (pc' := 81) dX12_lend_79 (by decide) rfl ?_
    refine z_icmp_ne (pt := 86) (pc' := 84) dX12_lend_81 (by decide) rfl (fun hc => ?_) (fun hc => ?_)
    · have h := h.1 hc
      refine z_aload_n (pc' := 87) dX12_lend_86 rfl rfl ?_
      refine r_getA (kf := 47) (pc' := 90) hK rt_47 dX12_lend_87 kX12_97 rfl (by decide) (by decide) rfl ?_
      refine z_aload_n (pc' := 91) dX12_lend_90 rfl rfl ?_
      refine r_getI (kf := 52) (pc' := 94) hK dX12_lend_91 kX12_397 rfl (by decide) (by decide) rfl ?_
      refine z_iload_n (pc' := 95) dX12_lend_94 rfl rfl ?_
      obtain ⟨h1, h⟩ := h
      obtain ⟨S4, hG⟩ : ∃ z, z = zup S1 1147 (S1 416 52).toNatClampNeg x1 := ⟨_, rfl⟩
      have h := h _ hG
      refine r_iast (pc' := 96) hK rt_47 rfl dX12_lend_95 rfl h1  ?_
      refine r_st hG ?_
      refine z_aload_n (pc' := 97) dX12_lend_96 rfl rfl ?_
      refine r_getA (kf := 48) (pc' := 100) hK rt_48 dX12_lend_97 kX12_100 rfl (by decide) (by decide) rfl ?_
      refine z_aload_n (pc' := 101) dX12_lend_100 rfl rfl ?_
      refine r_getI (kf := 52) (pc' := 104) hK dX12_lend_101 kX12_397 rfl (by decide) (by decide) rfl ?_
      refine z_iload_n (pc' := 105) dX12_lend_104 rfl rfl ?_
      obtain ⟨h1, h⟩ := h
      obtain ⟨S5, hG⟩ : ∃ z, z = zup S4 1148 (S4 416 52).toNatClampNeg x2 := ⟨_, rfl⟩
      have h := h _ hG
      refine r_iast (pc' := 106) hK rt_48 rfl dX12_lend_105 rfl h1  ?_
      refine r_st hG ?_
      refine z_aload_n (pc' := 107) dX12_lend_106 rfl rfl ?_
      refine r_getA (kf := 49) (pc' := 110) hK rt_49 dX12_lend_107 kX12_103 rfl (by decide) (by decide) rfl ?_
      refine z_aload_n (pc' := 111) dX12_lend_110 rfl rfl ?_
      refine r_getI (kf := 52) (pc' := 114) hK dX12_lend_111 kX12_397 rfl (by decide) (by decide) rfl ?_
      refine z_iload_n (pc' := 115) dX12_lend_114 rfl rfl ?_
      obtain ⟨h1, h⟩ := h
      obtain ⟨S6, hG⟩ : ∃ z, z = zup S5 1149 (S5 416 52).toNatClampNeg x3 := ⟨_, rfl⟩
      have h := h _ hG
      refine r_iast (pc' := 116) hK rt_49 rfl dX12_lend_115 rfl h1  ?_
      refine r_st hG ?_
      refine z_aload_n (pc' := 117) dX12_lend_116 rfl rfl ?_
      refine r_getA (kf := 50) (pc' := 120) hK rt_50 dX12_lend_117 kX12_106 rfl (by decide) (by decide) rfl ?_
      refine z_aload_n (pc' := 121) dX12_lend_120 rfl rfl ?_
      refine r_getI (kf := 52) (pc' := 124) hK dX12_lend_121 kX12_397 rfl (by decide) (by decide) rfl ?_
      refine z_iload (pc' := 126) dX12_lend_124 rfl rfl ?_
      obtain ⟨h1, h⟩ := h
      obtain ⟨S7, hG⟩ : ∃ z, z = zup S6 1150 (S6 416 52).toNatClampNeg x4 := ⟨_, rfl⟩
      have h := h _ hG
      refine r_iast (pc' := 127) hK rt_50 rfl dX12_lend_126 rfl h1  ?_
      refine r_st hG ?_
      refine z_aload_n (pc' := 128) dX12_lend_127 rfl rfl ?_
      refine r_getA (kf := 51) (pc' := 131) hK rt_51 dX12_lend_128 kX12_109 rfl (by decide) (by decide) rfl ?_
      refine z_aload_n (pc' := 132) dX12_lend_131 rfl rfl ?_
      refine r_getI (kf := 52) (pc' := 135) hK dX12_lend_132 kX12_397 rfl (by decide) (by decide) rfl ?_
      refine z_iload (pc' := 137) dX12_lend_135 rfl rfl ?_
      obtain ⟨h1, h⟩ := h
      obtain ⟨S8, hG⟩ : ∃ z, z = zup S7 1151 (S7 416 52).toNatClampNeg x5 := ⟨_, rfl⟩
      have h := h _ hG
      refine r_iast (pc' := 138) hK rt_51 rfl dX12_lend_137 rfl h1  ?_
      refine r_st hG ?_
      refine z_aload_n (pc' := 139) dX12_lend_138 rfl rfl ?_
      refine z_dup (pc' := 140) dX12_lend_139 rfl rfl ?_
      refine r_getI (kf := 52) (pc' := 143) hK dX12_lend_140 kX12_397 rfl (by decide) (by decide) rfl ?_
      refine z_iconst (x := 1) (pc' := 144) dX12_lend_143 (by decide) rfl ?_
      refine z_iadd (pc' := 145) dX12_lend_144 rfl rfl ?_
      obtain ⟨S9, hG⟩ : ∃ z, z = zup S8 416 52 ((S8 416 52) + 1) := ⟨_, rfl⟩
      have h := h _ hG
      refine r_putI (kf := 52) (pc' := 148) hK dX12_lend_145 kX12_397 rfl (by decide) (by decide) rfl rfl (zok_int _) ?_
      refine r_st hG ?_
      refine z_aload_n (pc' := 149) dX12_lend_148 rfl rfl ?_
      refine r_getI (kf := 52) (pc' := 152) hK dX12_lend_149 kX12_397 rfl (by decide) (by decide) rfl ?_
      exact z_iret dX12_lend_152 rfl ⟨_, _, rfl, rfl, h⟩
    · have h := h.2 hc
      refine z_iconst (x := (-1)) (pc' := 85) dX12_lend_84 (by decide) rfl ?_
      exact z_iret dX12_lend_85 rfl ⟨_, _, rfl, rfl, h⟩
  · have h := h.2 hc
    refine z_iconst (x := 0) (pc' := 74) dX12_lend_73 (by decide) rfl ?_
    exact z_iret dX12_lend_74 rfl ⟨_, _, rfl, rfl, h⟩
