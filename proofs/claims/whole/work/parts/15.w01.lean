/-! what the methods come to -/
def wp_X11_far_0 (E : ZE) (l : Launch) (d b : Nat) (G0 : ZG) (Q : ZQ) (k : Nat) (q0 : Nat) (x1 : Int32) (x2 : Int32) (G : ZG) : Prop :=
  zob G q0 12 ∧
  xcR E l mX11_personAt d [.ref q0, .int x1] G k (fun X G9 => Q (.inr X) G9) (fun y1 G2 k3 =>
  zob G2 q0 12 ∧
  xcR E l mX11_personAt d [.ref q0, .int x2] G2 k3 (fun X G9 => Q (.inr X) G9) (fun y4 G5 k6 =>
  zob G5 y1 9 ∧
  xcI E l mX8_farFrom d [.ref y1, .ref y4] G5 k6 (fun X G9 => Q (.inr X) G9) (fun y7 G8 k9 =>
  Q (.inl (some (.int y7))) G8)))
theorem wpt_X11_far_0 {E : ZE} {l : Launch} {d b : Nat} {G0 : ZG} {Q : ZQ} {k : Nat} {q0 : Nat} {x1 : Int32} {x2 : Int32} {G : ZG} (h : wp_X11_far_0 E l d b G0 Q k q0 x1 x2 G) : zW E l mX11_far d b G0 Q k 0 [some (.ref q0), some (.int x1), some (.int x2), none] [] G := by
  unfold wp_X11_far_0 at h
  refine z_aload_n (pc' := 1) dX11_far_0 rfl rfl ?_
  refine z_iload_n (pc' := 2) dX11_far_1 rfl rfl ?_
  obtain ⟨h1, h⟩ := h
  obtain ⟨d1, b1, Qz, hm, hdd, hb, hkx, hk⟩ := h
  refine z_callV (Y := mX11_personAt) (n := 1) (as := [.int x1]) (st := []) (pc' := 5) (ci := 12) (q := q0) hm dX11_far_2 kX11_134 vX11_personAt rfl rfl (by decide) rfl h1 hdd hb (Nat.le_of_ble_eq_true rfl) (fun r G2 hz => ?_) hkx
  obtain ⟨y1, rfl, h⟩ := hk r G2 hz
  refine z_astore_n (pc' := 6) dX11_far_5 (by decide) rfl ?_
  refine z_aload_n (pc' := 7) dX11_far_6 rfl rfl ?_
  refine z_aload_n (pc' := 8) dX11_far_7 rfl rfl ?_
  refine z_iload_n (pc' := 9) dX11_far_8 rfl rfl ?_
  obtain ⟨h1, h⟩ := h
  obtain ⟨d1, b1, Qz, hm, hdd, hb, hkx, hk⟩ := h
  refine z_callV (Y := mX11_personAt) (n := 1) (as := [.int x2]) (st := [.ref y1]) (pc' := 12) (ci := 12) (q := q0) hm dX11_far_9 kX11_134 vX11_personAt rfl rfl (by decide) rfl h1 hdd hb (Nat.le_of_ble_eq_true rfl) (fun r G5 hz => ?_) hkx
  obtain ⟨y4, rfl, h⟩ := hk r G5 hz
  obtain ⟨h1, h⟩ := h
  obtain ⟨d1, b1, Qz, hm, hdd, hb, hkx, hk⟩ := h
  refine z_callV (Y := mX8_farFrom) (n := 1) (as := [.ref y4]) (st := []) (pc' := 15) (ci := 9) (q := y1) hm dX11_far_12 kX11_159 vX8_farFrom rfl rfl (by decide) rfl h1 hdd hb (Nat.le_of_ble_eq_true rfl) (fun r G8 hz => ?_) hkx
  obtain ⟨y7, rfl, h⟩ := hk r G8 hz
  exact z_iret dX11_far_15 rfl h
def wp_X11_fault_0 (E : ZE) (l : Launch) (d b : Nat) (G0 : ZG) (Q : ZQ) (k : Nat) (q0 : Nat) (G : ZG) : Prop :=
  zob G q0 12 ∧
  Q (.inl (some (.int (ziv G q0 2)))) G
theorem wpt_X11_fault_0 {E : ZE} {l : Launch} {d b : Nat} {G0 : ZG} {Q : ZQ} {k : Nat} {q0 : Nat} {G : ZG} (h : wp_X11_fault_0 E l d b G0 Q k q0 G) : zW E l mX11_fault d b G0 Q k 0 [some (.ref q0)] [] G := by
  unfold wp_X11_fault_0 at h
  refine z_aload_n (pc' := 1) dX11_fault_0 rfl rfl ?_
  obtain ⟨h1, h⟩ := h
  refine z_getI (ci := 12) (kf := 2) (pc' := 4) dX11_fault_1 kX11_17 (Or.inl rfl) (by decide) (by decide) rfl rfl h1 ?_
  exact z_iret dX11_fault_4 rfl h
def wp_X11_feed_0 (E : ZE) (l : Launch) (d b : Nat) (G0 : ZG) (Q : ZQ) (k : Nat) (q0 : Nat) (x1 : Int32) (x2 : Int32) (x3 : Int32) (x4 : Int32) (x5 : Int32) (G : ZG) : Prop :=
  zob G q0 12 ∧
  ((((ziv G q0 1) + 20) ≤ 400 →
    zob G q0 12 ∧
    xcV E l mX11_putBytes d [.ref q0, .int x1] G k (fun X G9 => Q (.inr X) G9) (fun G1 k2 =>
    zob G1 q0 12 ∧
    xcV E l mX11_putBytes d [.ref q0, .int x2] G1 k2 (fun X G9 => Q (.inr X) G9) (fun G3 k4 =>
    zob G3 q0 12 ∧
    xcV E l mX11_putBytes d [.ref q0, .int x3] G3 k4 (fun X G9 => Q (.inr X) G9) (fun G5 k6 =>
    zob G5 q0 12 ∧
    xcV E l mX11_putBytes d [.ref q0, .int x4] G5 k6 (fun X G9 => Q (.inr X) G9) (fun G7 k8 =>
    zob G7 q0 12 ∧
    xcV E l mX11_putBytes d [.ref q0, .int x5] G7 k8 (fun X G9 => Q (.inr X) G9) (fun G9 k10 =>
    zob G9 q0 12 ∧
    Q (.inl (some (.int (ziv G9 q0 1)))) G9)))))) ∧
  (¬ (((ziv G q0 1) + 20) ≤ 400) →
    Q (.inl (some (.int (-1)))) G))
theorem wpt_X11_feed_0 {E : ZE} {l : Launch} {d b : Nat} {G0 : ZG} {Q : ZQ} {k : Nat} {q0 : Nat} {x1 : Int32} {x2 : Int32} {x3 : Int32} {x4 : Int32} {x5 : Int32} {G : ZG} (h : wp_X11_feed_0 E l d b G0 Q k q0 x1 x2 x3 x4 x5 G) : zW E l mX11_feed d b G0 Q k 0 [some (.ref q0), some (.int x1), some (.int x2), some (.int x3), some (.int x4), some (.int x5)] [] G := by
  unfold wp_X11_feed_0 at h
  refine z_aload_n (pc' := 1) dX11_feed_0 rfl rfl ?_
  obtain ⟨h1, h⟩ := h
  refine z_getI (ci := 12) (kf := 1) (pc' := 4) dX11_feed_1 kX11_13 (Or.inl rfl) (by decide) (by decide) rfl rfl h1 ?_
  refine z_bipush (x := 20) (pc' := 6) dX11_feed_4 (by decide) rfl ?_
  refine z_iadd (pc' := 7) dX11_feed_6 rfl rfl ?_
  refine z_sipush (x := 400) (pc' := 10) dX11_feed_7 (by decide) rfl ?_
  refine z_icmp_le (pt := 15) (pc' := 13) dX11_feed_10 (by decide) rfl (fun hc => ?_) (fun hc => ?_)
  · have h := h.1 hc
    refine z_aload_n (pc' := 16) dX11_feed_15 rfl rfl ?_
    refine z_iload_n (pc' := 17) dX11_feed_16 rfl rfl ?_
    obtain ⟨h1, h⟩ := h
    obtain ⟨d1, b1, Qz, hm, hdd, hb, hkx, hk⟩ := h
    refine z_callV (Y := mX11_putBytes) (n := 1) (as := [.int x1]) (st := []) (pc' := 20) (ci := 12) (q := q0) hm dX11_feed_17 kX11_69 vX11_putBytes rfl rfl (by decide) rfl h1 hdd hb (Nat.le_of_ble_eq_true rfl) (fun r G1 hz => ?_) hkx
    obtain ⟨rfl, h⟩ := hk r G1 hz
    refine z_aload_n (pc' := 21) dX11_feed_20 rfl rfl ?_
    refine z_iload_n (pc' := 22) dX11_feed_21 rfl rfl ?_
    obtain ⟨h1, h⟩ := h
    obtain ⟨d1, b1, Qz, hm, hdd, hb, hkx, hk⟩ := h
    refine z_callV (Y := mX11_putBytes) (n := 1) (as := [.int x2]) (st := []) (pc' := 25) (ci := 12) (q := q0) hm dX11_feed_22 kX11_69 vX11_putBytes rfl rfl (by decide) rfl h1 hdd hb (Nat.le_of_ble_eq_true rfl) (fun r G3 hz => ?_) hkx
    obtain ⟨rfl, h⟩ := hk r G3 hz
    refine z_aload_n (pc' := 26) dX11_feed_25 rfl rfl ?_
    refine z_iload_n (pc' := 27) dX11_feed_26 rfl rfl ?_
    obtain ⟨h1, h⟩ := h
    obtain ⟨d1, b1, Qz, hm, hdd, hb, hkx, hk⟩ := h
    refine z_callV (Y := mX11_putBytes) (n := 1) (as := [.int x3]) (st := []) (pc' := 30) (ci := 12) (q := q0) hm dX11_feed_27 kX11_69 vX11_putBytes rfl rfl (by decide) rfl h1 hdd hb (Nat.le_of_ble_eq_true rfl) (fun r G5 hz => ?_) hkx
    obtain ⟨rfl, h⟩ := hk r G5 hz
    refine z_aload_n (pc' := 31) dX11_feed_30 rfl rfl ?_
    refine z_iload (pc' := 33) dX11_feed_31 rfl rfl ?_
    obtain ⟨h1, h⟩ := h
    obtain ⟨d1, b1, Qz, hm, hdd, hb, hkx, hk⟩ := h
    refine z_callV (Y := mX11_putBytes) (n := 1) (as := [.int x4]) (st := []) (pc' := 36) (ci := 12) (q := q0) hm dX11_feed_33 kX11_69 vX11_putBytes rfl rfl (by decide) rfl h1 hdd hb (Nat.le_of_ble_eq_true rfl) (fun r G7 hz => ?_) hkx
    obtain ⟨rfl, h⟩ := hk r G7 hz
    refine z_aload_n (pc' := 37) dX11_feed_36 rfl rfl ?_
    refine z_iload (pc' := 39) dX11_feed_37 rfl rfl ?_
    obtain ⟨h1, h⟩ := h
    obtain ⟨d1, b1, Qz, hm, hdd, hb, hkx, hk⟩ := h
    refine z_callV (Y := mX11_putBytes) (n := 1) (as := [.int x5]) (st := []) (pc' := 42) (ci := 12) (q := q0) hm dX11_feed_39 kX11_69 vX11_putBytes rfl rfl (by decide) rfl h1 hdd hb (Nat.le_of_ble_eq_true rfl) (fun r G9 hz => ?_) hkx
    obtain ⟨rfl, h⟩ := hk r G9 hz
    refine z_aload_n (pc' := 43) dX11_feed_42 rfl rfl ?_
    obtain ⟨h1, h⟩ := h
    refine z_getI (ci := 12) (kf := 1) (pc' := 46) dX11_feed_43 kX11_13 (Or.inl rfl) (by decide) (by decide) rfl rfl h1 ?_
    exact z_iret dX11_feed_46 rfl h
  · have h := h.2 hc
    refine z_iconst (x := (-1)) (pc' := 14) dX11_feed_13 (by decide) rfl ?_
    exact z_iret dX11_feed_14 rfl h
def wp_X11_figure_0 (E : ZE) (l : Launch) (d b : Nat) (G0 : ZG) (Q : ZQ) (k : Nat) (q0 : Nat) (x1 : Int32) (G : ZG) : Prop :=
  zob G q0 12 ∧
  xcR E l mX11_personAt d [.ref q0, .int x1] G k (fun X G9 => Q (.inr X) G9) (fun y1 G2 k3 =>
  zob G2 y1 9 ∧
  ((¬ (zrv G2 y1 3) = 0 →
    zob G2 (zrv G2 y1 3) 6 ∧
    xcI E l mX5_checkFigure d [.ref (zrv G2 y1 3)] G2 k3 (fun X G9 => Q (.inr X) G9) (fun y4 G5 k6 =>
    Q (.inl (some (.int y4))) G5)) ∧
  (¬ (¬ (zrv G2 y1 3) = 0) →
    Q (.inl (some (.int (-1)))) G2)))
theorem wpt_X11_figure_0 {E : ZE} {l : Launch} {d b : Nat} {G0 : ZG} {Q : ZQ} {k : Nat} {q0 : Nat} {x1 : Int32} {G : ZG} (h : wp_X11_figure_0 E l d b G0 Q k q0 x1 G) : zW E l mX11_figure d b G0 Q k 0 [some (.ref q0), some (.int x1), none] [] G := by
  unfold wp_X11_figure_0 at h
  refine z_aload_n (pc' := 1) dX11_figure_0 rfl rfl ?_
  refine z_iload_n (pc' := 2) dX11_figure_1 rfl rfl ?_
  obtain ⟨h1, h⟩ := h
  obtain ⟨d1, b1, Qz, hm, hdd, hb, hkx, hk⟩ := h
  refine z_callV (Y := mX11_personAt) (n := 1) (as := [.int x1]) (st := []) (pc' := 5) (ci := 12) (q := q0) hm dX11_figure_2 kX11_134 vX11_personAt rfl rfl (by decide) rfl h1 hdd hb (Nat.le_of_ble_eq_true rfl) (fun r G2 hz => ?_) hkx
  obtain ⟨y1, rfl, h⟩ := hk r G2 hz
  obtain ⟨h1, h⟩ := h
  refine z_getR (ci := 9) (kf := 3) (pc' := 8) dX11_figure_5 kX11_146 (Or.inl rfl) (by decide) (by decide) rfl rfl h1 ?_
  refine z_astore_n (pc' := 9) dX11_figure_8 (by decide) rfl ?_
  refine z_aload_n (pc' := 10) dX11_figure_9 rfl rfl ?_
  refine z_ifnonnull (pt := 17) (pc' := 13) dX11_figure_10 (by decide) rfl (fun hc => ?_) (fun hc => ?_)
  · have h := h.1 hc
    refine z_aload_n (pc' := 18) dX11_figure_17 rfl rfl ?_
    obtain ⟨h1, h⟩ := h
    obtain ⟨d1, b1, Qz, hm, hdd, hb, hkx, hk⟩ := h
    refine z_callV (Y := mX5_checkFigure) (n := 0) (as := []) (st := []) (pc' := 21) (ci := 6) (q := (zrv G2 y1 3)) hm dX11_figure_18 kX11_156 vX5_checkFigure rfl rfl (by decide) rfl h1 hdd hb (Nat.le_of_ble_eq_true rfl) (fun r G5 hz => ?_) hkx
    obtain ⟨y4, rfl, h⟩ := hk r G5 hz
    exact z_iret dX11_figure_21 rfl h
  · have h := h.2 hc
    refine z_iconst (x := (-1)) (pc' := 14) dX11_figure_13 (by decide) rfl ?_
    refine z_goto (pc' := 21) dX11_figure_14 (by decide) ?_
    exact z_iret dX11_figure_21 rfl h
def wp_X11_give_0 (E : ZE) (l : Launch) (d b : Nat) (G0 : ZG) (Q : ZQ) (k : Nat) (q0 : Nat) (x1 : Int32) (x2 : Int32) (G : ZG) : Prop :=
  zob G q0 12 ∧
  xcR E l mX11_askingAt d [.ref q0, .int x1] G k (fun X G9 => Q (.inr X) G9) (fun y1 G2 k3 =>
  xcI E l mX11_isItems d [.int x2] G2 k3 (fun X G9 => Q (.inr X) G9) (fun y4 G5 k6 =>
  xcV E l mX11_demand d [.int y4] G5 k6 (fun X G9 => Q (.inr X) G9) (fun G7 k8 =>
  zob G7 y1 1 ∧
  ((¬ (ziv G7 y1 7) = 1 →
    zW E l mX11_give d b G0 Q k8 26 [none, none, some (.int x2), some (.ref y1)] [.int 0] G7) ∧
  (¬ (¬ (ziv G7 y1 7) = 1) →
    zW E l mX11_give d b G0 Q k8 26 [none, none, some (.int x2), some (.ref y1)] [.int 1] G7)))))
theorem wpt_X11_give_0 {E : ZE} {l : Launch} {d b : Nat} {G0 : ZG} {Q : ZQ} {k : Nat} {q0 : Nat} {x1 : Int32} {x2 : Int32} {G : ZG} (h : wp_X11_give_0 E l d b G0 Q k q0 x1 x2 G) : zW E l mX11_give d b G0 Q k 0 [some (.ref q0), some (.int x1), some (.int x2), none] [] G := by
  unfold wp_X11_give_0 at h
  refine z_aload_n (pc' := 1) dX11_give_0 rfl rfl ?_
  refine z_iload_n (pc' := 2) dX11_give_1 rfl rfl ?_
  obtain ⟨h1, h⟩ := h
  obtain ⟨d1, b1, Qz, hm, hdd, hb, hkx, hk⟩ := h
  refine z_callV (Y := mX11_askingAt) (n := 1) (as := [.int x1]) (st := []) (pc' := 5) (ci := 12) (q := q0) hm dX11_give_2 kX11_236 vX11_askingAt rfl rfl (by decide) rfl h1 hdd hb (Nat.le_of_ble_eq_true rfl) (fun r G2 hz => ?_) hkx
  obtain ⟨y1, rfl, h⟩ := hk r G2 hz
  refine z_astore_n (pc' := 6) dX11_give_5 (by decide) rfl ?_
  refine z_iload_n (pc' := 7) dX11_give_6 rfl rfl ?_
  obtain ⟨d1, b1, Qz, hm, hdd, hb, hkx, hk⟩ := h
  refine z_callS (Y := mX11_isItems) (n := 1) (as := [.int x2]) (st := []) (pc' := 10) hm dX11_give_7 kX11_220 sX11_isItems rfl rfl hdd hb (Nat.le_of_ble_eq_true rfl) (fun r G5 hz => ?_) hkx
  obtain ⟨y4, rfl, h⟩ := hk r G5 hz
  obtain ⟨d1, b1, Qz, hm, hdd, hb, hkx, hk⟩ := h
  refine z_callS (Y := mX11_demand) (n := 1) (as := [.int y4]) (st := []) (pc' := 13) hm dX11_give_10 kX11_86 sX11_demand rfl rfl hdd hb (Nat.le_of_ble_eq_true rfl) (fun r G7 hz => ?_) hkx
  obtain ⟨rfl, h⟩ := hk r G7 hz
  refine z_aload_n (pc' := 14) dX11_give_13 rfl rfl ?_
  obtain ⟨h1, h⟩ := h
  refine z_getI (ci := 1) (kf := 7) (pc' := 17) dX11_give_14 kX11_240 (Or.inl rfl) (by decide) (by decide) rfl rfl h1 ?_
  refine z_iconst (x := 1) (pc' := 18) dX11_give_17 (by decide) rfl ?_
  refine z_icmp_ne (pt := 25) (pc' := 21) dX11_give_18 (by decide) rfl (fun hc => ?_) (fun hc => ?_)
  · have h := h.1 hc
    refine z_iconst (x := 0) (pc' := 26) dX11_give_25 (by decide) rfl ?_
    exact z_dr (ls' := [none, none, some (.int x2), some (.ref y1)]) ⟨rfl, rfl, trivial⟩ h
  · have h := h.2 hc
    refine z_iconst (x := 1) (pc' := 22) dX11_give_21 (by decide) rfl ?_
    refine z_goto (pc' := 26) dX11_give_22 (by decide) ?_
    exact z_dr (ls' := [none, none, some (.int x2), some (.ref y1)]) ⟨rfl, rfl, trivial⟩ h
def wp_X11_give_26 (E : ZE) (l : Launch) (d b : Nat) (G0 : ZG) (Q : ZQ) (k : Nat) (x2 : Int32) (q3 : Nat) (s0 : Int32) (G : ZG) : Prop :=
  xcV E l mX11_allow d [.int s0] G k (fun X G9 => Q (.inr X) G9) (fun G1 k2 =>
  zob G1 q3 1 ∧
  zob G1 q3 1 ∧
  ∀ G3, G3 = zsi G1 q3 8 ((ziv G1 q3 8) ||| x2) →
  zob G3 q3 1 ∧
  xcI E l mX0_lackingItems d [.ref q3] G3 k2 (fun X G9 => Q (.inr X) G9) (fun y4 G5 k6 =>
  ((¬ y4 = 0 →
    zob G5 q3 1 ∧
    xcI E l mX0_lackingItems d [.ref q3] G5 k6 (fun X G9 => Q (.inr X) G9) (fun y7 G8 k9 =>
    Q (.inl (some (.int y7))) G8)) ∧
  (¬ (¬ y4 = 0) →
    zob G5 q3 1 ∧
    ∀ G10, G10 = zsi G5 q3 7 0 →
    zob G10 q3 1 ∧
    xcI E l mX0_lackingItems d [.ref q3] G10 k6 (fun X G9 => Q (.inr X) G9) (fun y11 G12 k13 =>
    Q (.inl (some (.int y11))) G12)))))
theorem wpt_X11_give_26 {E : ZE} {l : Launch} {d b : Nat} {G0 : ZG} {Q : ZQ} {k : Nat} {x2 : Int32} {q3 : Nat} {s0 : Int32} {G : ZG} (h : wp_X11_give_26 E l d b G0 Q k x2 q3 s0 G) : zW E l mX11_give d b G0 Q k 26 [none, none, some (.int x2), some (.ref q3)] [.int s0] G := by
  unfold wp_X11_give_26 at h
  obtain ⟨d1, b1, Qz, hm, hdd, hb, hkx, hk⟩ := h
  refine z_callS (Y := mX11_allow) (n := 1) (as := [.int s0]) (st := []) (pc' := 29) hm dX11_give_26 kX11_243 sX11_allow rfl rfl hdd hb (Nat.le_of_ble_eq_true rfl) (fun r G1 hz => ?_) hkx
  obtain ⟨rfl, h⟩ := hk r G1 hz
  refine z_aload_n (pc' := 30) dX11_give_29 rfl rfl ?_
  refine z_dup (pc' := 31) dX11_give_30 rfl rfl ?_
  obtain ⟨h1, h⟩ := h
  refine z_getI (ci := 1) (kf := 8) (pc' := 34) dX11_give_31 kX11_229 (Or.inl rfl) (by decide) (by decide) rfl rfl h1 ?_
  refine z_iload_n (pc' := 35) dX11_give_34 rfl rfl ?_
  refine z_ior (pc' := 36) dX11_give_35 rfl rfl ?_
  obtain ⟨h1, h⟩ := h
  obtain ⟨G3, hG⟩ : ∃ z, z = zsi G1 q3 8 ((ziv G1 q3 8) ||| x2) := ⟨_, rfl⟩
  have h := h _ hG
  refine z_putI (ci := 1) (kf := 8) (pc' := 39) dX11_give_36 kX11_229 (Or.inl rfl) (by decide) (by decide) rfl (Or.inl rfl) rfl h1 (zok_int _) ?_
  refine z_st hG ?_
  refine z_aload_n (pc' := 40) dX11_give_39 rfl rfl ?_
  obtain ⟨h1, h⟩ := h
  obtain ⟨d1, b1, Qz, hm, hdd, hb, hkx, hk⟩ := h
  refine z_callV (Y := mX0_lackingItems) (n := 0) (as := []) (st := []) (pc' := 43) (ci := 1) (q := q3) hm dX11_give_40 kX11_246 vX0_lackingItems rfl rfl (by decide) rfl h1 hdd hb (Nat.le_of_ble_eq_true rfl) (fun r G5 hz => ?_) hkx
  obtain ⟨y4, rfl, h⟩ := hk r G5 hz
  refine z_if_ne (pt := 51) (pc' := 46) dX11_give_43 (by decide) rfl (fun hc => ?_) (fun hc => ?_)
  · have h := h.1 hc
    refine z_aload_n (pc' := 52) dX11_give_51 rfl rfl ?_
    obtain ⟨h1, h⟩ := h
    obtain ⟨d1, b1, Qz, hm, hdd, hb, hkx, hk⟩ := h
    refine z_callV (Y := mX0_lackingItems) (n := 0) (as := []) (st := []) (pc' := 55) (ci := 1) (q := q3) hm dX11_give_52 kX11_246 vX0_lackingItems rfl rfl (by decide) rfl h1 hdd hb (Nat.le_of_ble_eq_true rfl) (fun r G8 hz => ?_) hkx
    obtain ⟨y7, rfl, h⟩ := hk r G8 hz
    exact z_iret dX11_give_55 rfl h
  · have h := h.2 hc
    refine z_aload_n (pc' := 47) dX11_give_46 rfl rfl ?_
    refine z_iconst (x := 0) (pc' := 48) dX11_give_47 (by decide) rfl ?_
    obtain ⟨h1, h⟩ := h
    obtain ⟨G10, hG⟩ : ∃ z, z = zsi G5 q3 7 0 := ⟨_, rfl⟩
    have h := h _ hG
    refine z_putI (ci := 1) (kf := 7) (pc' := 51) dX11_give_48 kX11_240 (Or.inl rfl) (by decide) (by decide) rfl (Or.inl rfl) rfl h1 (zok_int _) ?_
    refine z_st hG ?_
    refine z_aload_n (pc' := 52) dX11_give_51 rfl rfl ?_
    obtain ⟨h1, h⟩ := h
    obtain ⟨d1, b1, Qz, hm, hdd, hb, hkx, hk⟩ := h
    refine z_callV (Y := mX0_lackingItems) (n := 0) (as := []) (st := []) (pc' := 55) (ci := 1) (q := q3) hm dX11_give_52 kX11_246 vX0_lackingItems rfl rfl (by decide) rfl h1 hdd hb (Nat.le_of_ble_eq_true rfl) (fun r G12 hz => ?_) hkx
    obtain ⟨y11, rfl, h⟩ := hk r G12 hz
    exact z_iret dX11_give_55 rfl h
def wp_X11_hands_0 (E : ZE) (l : Launch) (d b : Nat) (G0 : ZG) (Q : ZQ) (k : Nat) (q0 : Nat) (x1 : Int32) (x2 : Int32) (G : ZG) : Prop :=
  xcV E l mX11_checkDesk d [.int x1] G k (fun X G9 => Q (.inr X) G9) (fun G1 k2 =>
  ((x2 < 0 →
    xcV E l mX11_demand d [.int 0] G1 k2 (fun X G9 => Q (.inr X) G9) (fun G3 k4 =>
    zob G3 q0 12 ∧
    zob G3 (zrv G3 q0 6) 3 ∧
    xcV E l mX2_setHands d [.ref (zrv G3 q0 6), .int x1, .int x2] G3 k4 (fun X G9 => Q (.inr X) G9) (fun G5 k6 =>
    Q (.inl none) G5))) ∧
  (¬ (x2 < 0) →
    ((30 < x2 →
      xcV E l mX11_demand d [.int 0] G1 k2 (fun X G9 => Q (.inr X) G9) (fun G7 k8 =>
      zob G7 q0 12 ∧
      zob G7 (zrv G7 q0 6) 3 ∧
      xcV E l mX2_setHands d [.ref (zrv G7 q0 6), .int x1, .int x2] G7 k8 (fun X G9 => Q (.inr X) G9) (fun G9 k10 =>
      Q (.inl none) G9))) ∧
    (¬ (30 < x2) →
      xcV E l mX11_demand d [.int 1] G1 k2 (fun X G9 => Q (.inr X) G9) (fun G11 k12 =>
      zob G11 q0 12 ∧
      zob G11 (zrv G11 q0 6) 3 ∧
      xcV E l mX2_setHands d [.ref (zrv G11 q0 6), .int x1, .int x2] G11 k12 (fun X G9 => Q (.inr X) G9) (fun G13 k14 =>
      Q (.inl none) G13)))))))
theorem wpt_X11_hands_0 {E : ZE} {l : Launch} {d b : Nat} {G0 : ZG} {Q : ZQ} {k : Nat} {q0 : Nat} {x1 : Int32} {x2 : Int32} {G : ZG} (h : wp_X11_hands_0 E l d b G0 Q k q0 x1 x2 G) : zW E l mX11_hands d b G0 Q k 0 [some (.ref q0), some (.int x1), some (.int x2)] [] G := by
  unfold wp_X11_hands_0 at h
  refine z_iload_n (pc' := 1) dX11_hands_0 rfl rfl ?_
  obtain ⟨d1, b1, Qz, hm, hdd, hb, hkx, hk⟩ := h
  refine z_callS (Y := mX11_checkDesk) (n := 1) (as := [.int x1]) (st := []) (pc' := 4) hm dX11_hands_1 kX11_291 sX11_checkDesk rfl rfl hdd hb (Nat.le_of_ble_eq_true rfl) (fun r G1 hz => ?_) hkx
  obtain ⟨rfl, h⟩ := hk r G1 hz
  refine z_iload_n (pc' := 5) dX11_hands_4 rfl rfl ?_
  refine z_if_lt (pt := 18) (pc' := 8) dX11_hands_5 (by decide) rfl (fun hc => ?_) (fun hc => ?_)
  · have h := h.1 hc
    refine z_iconst (x := 0) (pc' := 19) dX11_hands_18 (by decide) rfl ?_
    obtain ⟨d1, b1, Qz, hm, hdd, hb, hkx, hk⟩ := h
    refine z_callS (Y := mX11_demand) (n := 1) (as := [.int 0]) (st := []) (pc' := 22) hm dX11_hands_19 kX11_86 sX11_demand rfl rfl hdd hb (Nat.le_of_ble_eq_true rfl) (fun r G3 hz => ?_) hkx
    obtain ⟨rfl, h⟩ := hk r G3 hz
    refine z_aload_n (pc' := 23) dX11_hands_22 rfl rfl ?_
    obtain ⟨h1, h⟩ := h
    refine z_getR (ci := 12) (kf := 6) (pc' := 26) dX11_hands_23 kX11_46 (Or.inl rfl) (by decide) (by decide) rfl rfl h1 ?_
    refine z_iload_n (pc' := 27) dX11_hands_26 rfl rfl ?_
    refine z_iload_n (pc' := 28) dX11_hands_27 rfl rfl ?_
    obtain ⟨h1, h⟩ := h
    obtain ⟨d1, b1, Qz, hm, hdd, hb, hkx, hk⟩ := h
    refine z_callV (Y := mX2_setHands) (n := 2) (as := [.int x1, .int x2]) (st := []) (pc' := 31) (ci := 3) (q := (zrv G3 q0 6)) hm dX11_hands_28 kX11_294 vX2_setHands rfl rfl (by decide) rfl h1 hdd hb (Nat.le_of_ble_eq_true rfl) (fun r G5 hz => ?_) hkx
    obtain ⟨rfl, h⟩ := hk r G5 hz
    exact z_vret dX11_hands_31 rfl h
  · have h := h.2 hc
    refine z_iload_n (pc' := 9) dX11_hands_8 rfl rfl ?_
    refine z_bipush (x := 30) (pc' := 11) dX11_hands_9 (by decide) rfl ?_
    refine z_icmp_gt (pt := 18) (pc' := 14) dX11_hands_11 (by decide) rfl (fun hc => ?_) (fun hc => ?_)
    · have h := h.1 hc
      refine z_iconst (x := 0) (pc' := 19) dX11_hands_18 (by decide) rfl ?_
      obtain ⟨d1, b1, Qz, hm, hdd, hb, hkx, hk⟩ := h
      refine z_callS (Y := mX11_demand) (n := 1) (as := [.int 0]) (st := []) (pc' := 22) hm dX11_hands_19 kX11_86 sX11_demand rfl rfl hdd hb (Nat.le_of_ble_eq_true rfl) (fun r G7 hz => ?_) hkx
      obtain ⟨rfl, h⟩ := hk r G7 hz
      refine z_aload_n (pc' := 23) dX11_hands_22 rfl rfl ?_
      obtain ⟨h1, h⟩ := h
      refine z_getR (ci := 12) (kf := 6) (pc' := 26) dX11_hands_23 kX11_46 (Or.inl rfl) (by decide) (by decide) rfl rfl h1 ?_
      refine z_iload_n (pc' := 27) dX11_hands_26 rfl rfl ?_
      refine z_iload_n (pc' := 28) dX11_hands_27 rfl rfl ?_
      obtain ⟨h1, h⟩ := h
      obtain ⟨d1, b1, Qz, hm, hdd, hb, hkx, hk⟩ := h
      refine z_callV (Y := mX2_setHands) (n := 2) (as := [.int x1, .int x2]) (st := []) (pc' := 31) (ci := 3) (q := (zrv G7 q0 6)) hm dX11_hands_28 kX11_294 vX2_setHands rfl rfl (by decide) rfl h1 hdd hb (Nat.le_of_ble_eq_true rfl) (fun r G9 hz => ?_) hkx
      obtain ⟨rfl, h⟩ := hk r G9 hz
      exact z_vret dX11_hands_31 rfl h
    · have h := h.2 hc
      refine z_iconst (x := 1) (pc' := 15) dX11_hands_14 (by decide) rfl ?_
      refine z_goto (pc' := 19) dX11_hands_15 (by decide) ?_
      obtain ⟨d1, b1, Qz, hm, hdd, hb, hkx, hk⟩ := h
      refine z_callS (Y := mX11_demand) (n := 1) (as := [.int 1]) (st := []) (pc' := 22) hm dX11_hands_19 kX11_86 sX11_demand rfl rfl hdd hb (Nat.le_of_ble_eq_true rfl) (fun r G11 hz => ?_) hkx
      obtain ⟨rfl, h⟩ := hk r G11 hz
      refine z_aload_n (pc' := 23) dX11_hands_22 rfl rfl ?_
      obtain ⟨h1, h⟩ := h
      refine z_getR (ci := 12) (kf := 6) (pc' := 26) dX11_hands_23 kX11_46 (Or.inl rfl) (by decide) (by decide) rfl rfl h1 ?_
      refine z_iload_n (pc' := 27) dX11_hands_26 rfl rfl ?_
      refine z_iload_n (pc' := 28) dX11_hands_27 rfl rfl ?_
      obtain ⟨h1, h⟩ := h
      obtain ⟨d1, b1, Qz, hm, hdd, hb, hkx, hk⟩ := h
      refine z_callV (Y := mX2_setHands) (n := 2) (as := [.int x1, .int x2]) (st := []) (pc' := 31) (ci := 3) (q := (zrv G11 q0 6)) hm dX11_hands_28 kX11_294 vX2_setHands rfl rfl (by decide) rfl h1 hdd hb (Nat.le_of_ble_eq_true rfl) (fun r G13 hz => ?_) hkx
      obtain ⟨rfl, h⟩ := hk r G13 hz
      exact z_vret dX11_hands_31 rfl h
def wp_X11_init_0 (E : ZE) (l : Launch) (d b : Nat) (G0 : ZG) (Q : ZQ) (k : Nat) (q0 : Nat) (G : ZG) : Prop :=
  zal G q0 ∧ 1 ≤ d ∧
  ¬ (400 : Int32) < 0 ∧ (400 : Int32).toNatClampNeg ≤ 67108864 ∧ (400 : Int32).toNatClampNeg + 1 ≤ k ∧ ∃ t1, 1024 ≤ t1 ∧ t1 < 3584 ∧ (t1 - 1024) / 512 = 0 ∧
  ∀ q_2, q_2 = zp t1 (zcn G t1) → ∀ G3, G3 = znw G t1 (400 : Int32).toNatClampNeg → ∀ k4, k4 = k - ((400 : Int32).toNatClampNeg + 1) →
  zob G3 q0 12 ∧
  ∀ G5, G5 = zsr G3 q0 0 q_2 →
  zob G5 q0 12 ∧
  ∀ G6, G6 = zsi G5 q0 1 0 →
  zob G6 q0 12 ∧
  ∀ G7, G7 = zsi G6 q0 2 (-1) →
  4 ≤ k4 ∧ ∃ t8, t8 ≠ 0 ∧ t8 < 448 ∧ t8 / 32 = 0 ∧
  ∀ q_9, q_9 = zp t8 (zcn G7 t8) → ∀ G10, G10 = znw G7 t8 0 → ∀ k11, k11 = k4 - 4 →
  zal G10 q_9 ∧
  xcV E l mJx4a65c_init_da8c8 d [.ref q_9] G10 k11 (fun X G9 => Q (.inr X) G9) (fun G12 k13 =>
  zob G12 q0 12 ∧
  ∀ G14, G14 = zsr G12 q0 3 q_9 →
  10 ≤ k13 ∧ ∃ t15, t15 ≠ 0 ∧ t15 < 448 ∧ t15 / 32 = 4 ∧
  ∀ q_16, q_16 = zp t15 (zcn G14 t15) → ∀ G17, G17 = znw G14 t15 0 → ∀ k18, k18 = k13 - 10 →
  ¬ (0 : Int32) < 0 ∧ (0 : Int32).toNatClampNeg ≤ 67108864 ∧ (0 : Int32).toNatClampNeg + 1 ≤ k18 ∧ ∃ t19, 1024 ≤ t19 ∧ t19 < 3584 ∧ (t19 - 1024) / 512 = 0 ∧
  ∀ q_20, q_20 = zp t19 (zcn G17 t19) → ∀ G21, G21 = znw G17 t19 (0 : Int32).toNatClampNeg → ∀ k22, k22 = k18 - ((0 : Int32).toNatClampNeg + 1) →
  zal G21 q_16 ∧
  xcV E l mX3_init d [.ref q_16, .int (-1), .ref q_20] G21 k22 (fun X G9 => Q (.inr X) G9) (fun G23 k24 =>
  zob G23 q0 12 ∧
  ∀ G25, G25 = zsr G23 q0 4 q_16 →
  2 ≤ k24 ∧ ∃ t26, t26 ≠ 0 ∧ t26 < 448 ∧ t26 / 32 = 8 ∧
  ∀ q_27, q_27 = zp t26 (zcn G25 t26) → ∀ G28, G28 = znw G25 t26 0 → ∀ k29, k29 = k24 - 2 →
  zal G28 q_27 ∧
  xcV E l mX7_init d [.ref q_27] G28 k29 (fun X G9 => Q (.inr X) G9) (fun G30 k31 =>
  zob G30 q0 12 ∧
  ∀ G32, G32 = zsr G30 q0 5 q_27 →
  3 ≤ k31 ∧ ∃ t33, t33 ≠ 0 ∧ t33 < 448 ∧ t33 / 32 = 3 ∧
  ∀ q_34, q_34 = zp t33 (zcn G32 t33) → ∀ G35, G35 = znw G32 t33 0 → ∀ k36, k36 = k31 - 3 →
  zal G35 q_34 ∧
  xcV E l mX2_init d [.ref q_34] G35 k36 (fun X G9 => Q (.inr X) G9) (fun G37 k38 =>
  zob G37 q0 12 ∧
  ∀ G39, G39 = zsr G37 q0 6 q_34 →
  8 ≤ k38 ∧ ∃ t40, t40 ≠ 0 ∧ t40 < 448 ∧ t40 / 32 = 10 ∧
  ∀ q_41, q_41 = zp t40 (zcn G39 t40) → ∀ G42, G42 = znw G39 t40 0 → ∀ k43, k43 = k38 - 8 →
  zal G42 q_41 ∧
  xcV E l mX9_init d [.ref q_41] G42 k43 (fun X G9 => Q (.inr X) G9) (fun G44 k45 =>
  zob G44 q0 12 ∧
  ∀ G46, G46 = zsr G44 q0 7 q_41 →
  15 ≤ k45 ∧ ∃ t47, t47 ≠ 0 ∧ t47 < 448 ∧ t47 / 32 = 7 ∧
  ∀ q_48, q_48 = zp t47 (zcn G46 t47) → ∀ G49, G49 = znw G46 t47 0 → ∀ k50, k50 = k45 - 15 →
  zob G49 q0 12 ∧
  zob G49 q0 12 ∧
  zob G49 q0 12 ∧
  zal G49 q_48 ∧
  xcV E l mX6_init d [.ref q_48, .ref (zrv G49 q0 5), .ref (zrv G49 q0 6), .ref (zrv G49 q0 7)] G49 k50 (fun X G9 => Q (.inr X) G9) (fun G51 k52 =>
  zob G51 q0 12 ∧
  ∀ G53, G53 = zsr G51 q0 8 q_48 →
  15 ≤ k52 ∧ ∃ t54, t54 ≠ 0 ∧ t54 < 448 ∧ t54 / 32 = 7 ∧
  ∀ q_55, q_55 = zp t54 (zcn G53 t54) → ∀ G56, G56 = znw G53 t54 0 → ∀ k57, k57 = k52 - 15 →
  zob G56 q0 12 ∧
  zob G56 q0 12 ∧
  zob G56 q0 12 ∧
  zal G56 q_55 ∧
  xcV E l mX6_init d [.ref q_55, .ref (zrv G56 q0 5), .ref (zrv G56 q0 6), .ref (zrv G56 q0 7)] G56 k57 (fun X G9 => Q (.inr X) G9) (fun G58 k59 =>
  zob G58 q0 12 ∧
  ∀ G60, G60 = zsr G58 q0 9 q_55 →
  Q (.inl none) G60)))))))
theorem wpt_X11_init_0 {E : ZE} {l : Launch} {d b : Nat} {G0 : ZG} {Q : ZQ} {k : Nat} {q0 : Nat} {G : ZG} (h : wp_X11_init_0 E l d b G0 Q k q0 G) : zW E l mX11_init d b G0 Q k 0 [some (.ref q0)] [] G := by
  unfold wp_X11_init_0 at h
  refine z_aload_n (pc' := 1) dX11_init_0 rfl rfl ?_
  obtain ⟨h1, h2, h⟩ := h
  refine z_objInit (pc' := 4) dX11_init_1 kX11_1 o_inst o_code rfl h2 h1 (Nat.le_of_ble_eq_true rfl) ?_
  refine z_aload_n (pc' := 5) dX11_init_4 rfl rfl ?_
  refine z_sipush (x := 400) (pc' := 8) dX11_init_5 (by decide) rfl ?_
  obtain ⟨h1, h2, h3, t1, h4, h5, h6, h⟩ := h
  obtain ⟨q_2, hq⟩ : ∃ z, z = zp t1 (zcn G t1) := ⟨_, rfl⟩
  obtain ⟨G3, hG⟩ : ∃ z, z = znw G t1 (400 : Int32).toNatClampNeg := ⟨_, rfl⟩
  have h := h _ hq _ hG _ rfl
  refine z_newa (t := t1) (kd := 0) (pc' := 10) dX11_init_8 rfl (by decide) a_int rfl h4 h5 h6 h1 rfl h2 h3 ?_
  refine z_mk hq hG ?_
  obtain ⟨h1, h⟩ := h
  obtain ⟨G5, hG⟩ : ∃ z, z = zsr G3 q0 0 q_2 := ⟨_, rfl⟩
  have h := h _ hG
  refine z_putR (ci := 12) (kf := 0) (pc' := 13) dX11_init_10 kX11_9 (Or.inl rfl) (by decide) (by decide) rfl (Or.inr ⟨rfl, rfl⟩) rfl h1 ?_
  refine z_st hG ?_
  refine z_aload_n (pc' := 14) dX11_init_13 rfl rfl ?_
  refine z_iconst (x := 0) (pc' := 15) dX11_init_14 (by decide) rfl ?_
  obtain ⟨h1, h⟩ := h
  obtain ⟨G6, hG⟩ : ∃ z, z = zsi G5 q0 1 0 := ⟨_, rfl⟩
  have h := h _ hG
  refine z_putI (ci := 12) (kf := 1) (pc' := 18) dX11_init_15 kX11_13 (Or.inl rfl) (by decide) (by decide) rfl (Or.inl rfl) rfl h1 (zok_int _) ?_
  refine z_st hG ?_
  refine z_aload_n (pc' := 19) dX11_init_18 rfl rfl ?_
  refine z_iconst (x := (-1)) (pc' := 20) dX11_init_19 (by decide) rfl ?_
  obtain ⟨h1, h⟩ := h
  obtain ⟨G7, hG⟩ : ∃ z, z = zsi G6 q0 2 (-1) := ⟨_, rfl⟩
  have h := h _ hG
  refine z_putI (ci := 12) (kf := 2) (pc' := 23) dX11_init_20 kX11_17 (Or.inl rfl) (by decide) (by decide) rfl (Or.inl rfl) rfl h1 (zok_int _) ?_
  refine z_st hG ?_
  refine z_aload_n (pc' := 24) dX11_init_23 rfl rfl ?_
  obtain ⟨h1, t8, h2, h3, h4, h⟩ := h
  obtain ⟨q_9, hq⟩ : ∃ z, z = zp t8 (zcn G7 t8) := ⟨_, rfl⟩
  obtain ⟨G10, hG⟩ : ∃ z, z = znw G7 t8 0 := ⟨_, rfl⟩
  have h := h _ hq _ hG _ rfl
  refine z_new (ci := 0) (t := t8) (pc' := 27) dX11_init_24 kX11_20 n0_inst n0_ini (by decide) rfl h2 h3 h4 h1 (z_df (by decide)) ?_
  refine z_mk hq hG ?_
  refine z_dup (pc' := 28) dX11_init_27 rfl rfl ?_
  obtain ⟨h1, h⟩ := h
  obtain ⟨d1, b1, Qz, hm, hdd, hb, hkx, hk⟩ := h
  refine z_callI (Y := mJx4a65c_init_da8c8) (n := 0) (as := []) (st := [.ref q_9, .ref q0]) (pc' := 31) (q := q_9) hm dX11_init_28 kX11_22 iJx4a65c_init_da8c8 rfl rfl h1 hdd hb (Nat.le_of_ble_eq_true rfl) (fun r G12 hz => ?_) hkx
  obtain ⟨rfl, h⟩ := hk r G12 hz
  obtain ⟨h1, h⟩ := h
  obtain ⟨G14, hG⟩ : ∃ z, z = zsr G12 q0 3 q_9 := ⟨_, rfl⟩
  have h := h _ hG
  refine z_putR (ci := 12) (kf := 3) (pc' := 34) dX11_init_31 kX11_23 (Or.inl rfl) (by decide) (by decide) rfl (Or.inr ⟨rfl, rfl⟩) rfl h1 ?_
  refine z_st hG ?_
  refine z_aload_n (pc' := 35) dX11_init_34 rfl rfl ?_
  obtain ⟨h1, t15, h2, h3, h4, h⟩ := h
  obtain ⟨q_16, hq⟩ : ∃ z, z = zp t15 (zcn G14 t15) := ⟨_, rfl⟩
  obtain ⟨G17, hG⟩ : ∃ z, z = znw G14 t15 0 := ⟨_, rfl⟩
  have h := h _ hq _ hG _ rfl
  refine z_new (ci := 4) (t := t15) (pc' := 38) dX11_init_35 kX11_27 n4_inst n4_ini (by decide) rfl h2 h3 h4 h1 (z_df (by decide)) ?_
  refine z_mk hq hG ?_
  refine z_dup (pc' := 39) dX11_init_38 rfl rfl ?_
  refine z_iconst (x := (-1)) (pc' := 40) dX11_init_39 (by decide) rfl ?_
  refine z_iconst (x := 0) (pc' := 41) dX11_init_40 (by decide) rfl ?_
  obtain ⟨h1, h2, h3, t19, h4, h5, h6, h⟩ := h
  obtain ⟨q_20, hq⟩ : ∃ z, z = zp t19 (zcn G17 t19) := ⟨_, rfl⟩
  obtain ⟨G21, hG⟩ : ∃ z, z = znw G17 t19 (0 : Int32).toNatClampNeg := ⟨_, rfl⟩
  have h := h _ hq _ hG _ rfl
  refine z_newa (t := t19) (kd := 0) (pc' := 43) dX11_init_41 rfl (by decide) a_int rfl h4 h5 h6 h1 rfl h2 h3 ?_
  refine z_mk hq hG ?_
  obtain ⟨h1, h⟩ := h
  obtain ⟨d1, b1, Qz, hm, hdd, hb, hkx, hk⟩ := h
  refine z_callI (Y := mX3_init) (n := 2) (as := [.int (-1), .ref q_20]) (st := [.ref q_16, .ref q0]) (pc' := 46) (q := q_16) hm dX11_init_43 kX11_29 iX3_init rfl rfl h1 hdd hb (Nat.le_of_ble_eq_true rfl) (fun r G23 hz => ?_) hkx
  obtain ⟨rfl, h⟩ := hk r G23 hz
  obtain ⟨h1, h⟩ := h
  obtain ⟨G25, hG⟩ : ∃ z, z = zsr G23 q0 4 q_16 := ⟨_, rfl⟩
  have h := h _ hG
  refine z_putR (ci := 12) (kf := 4) (pc' := 49) dX11_init_46 kX11_32 (Or.inl rfl) (by decide) (by decide) rfl (Or.inr ⟨rfl, rfl⟩) rfl h1 ?_
  refine z_st hG ?_
  refine z_aload_n (pc' := 50) dX11_init_49 rfl rfl ?_
  obtain ⟨h1, t26, h2, h3, h4, h⟩ := h
  obtain ⟨q_27, hq⟩ : ∃ z, z = zp t26 (zcn G25 t26) := ⟨_, rfl⟩
  obtain ⟨G28, hG⟩ : ∃ z, z = znw G25 t26 0 := ⟨_, rfl⟩
  have h := h _ hq _ hG _ rfl
  refine z_new (ci := 8) (t := t26) (pc' := 53) dX11_init_50 kX11_36 n8_inst n8_ini (by decide) rfl h2 h3 h4 h1 (z_df (by decide)) ?_
  refine z_mk hq hG ?_
  refine z_dup (pc' := 54) dX11_init_53 rfl rfl ?_
  obtain ⟨h1, h⟩ := h
  obtain ⟨d1, b1, Qz, hm, hdd, hb, hkx, hk⟩ := h
  refine z_callN (host := RX11) (Y := mX7_init) (n := 0) (as := []) (st := [.ref q_27, .ref q0]) (pc' := 57) (q := q_27) hm dX11_init_54 zne_X11_38 iX7_init rfl rfl h1 hdd hb (Nat.le_of_ble_eq_true rfl) (fun r G30 hz => ?_) hkx
  obtain ⟨rfl, h⟩ := hk r G30 hz
  obtain ⟨h1, h⟩ := h
  obtain ⟨G32, hG⟩ : ∃ z, z = zsr G30 q0 5 q_27 := ⟨_, rfl⟩
  have h := h _ hG
  refine z_putR (ci := 12) (kf := 5) (pc' := 60) dX11_init_57 kX11_39 (Or.inl rfl) (by decide) (by decide) rfl (Or.inr ⟨rfl, rfl⟩) rfl h1 ?_
  refine z_st hG ?_
  refine z_aload_n (pc' := 61) dX11_init_60 rfl rfl ?_
  obtain ⟨h1, t33, h2, h3, h4, h⟩ := h
  obtain ⟨q_34, hq⟩ : ∃ z, z = zp t33 (zcn G32 t33) := ⟨_, rfl⟩
  obtain ⟨G35, hG⟩ : ∃ z, z = znw G32 t33 0 := ⟨_, rfl⟩
  have h := h _ hq _ hG _ rfl
  refine z_new (ci := 3) (t := t33) (pc' := 64) dX11_init_61 kX11_43 n3_inst n3_ini (by decide) rfl h2 h3 h4 h1 (z_df (by decide)) ?_
  refine z_mk hq hG ?_
  refine z_dup (pc' := 65) dX11_init_64 rfl rfl ?_
  obtain ⟨h1, h⟩ := h
  obtain ⟨d1, b1, Qz, hm, hdd, hb, hkx, hk⟩ := h
  refine z_callN (host := RX11) (Y := mX2_init) (n := 0) (as := []) (st := [.ref q_34, .ref q0]) (pc' := 68) (q := q_34) hm dX11_init_65 zne_X11_45 iX2_init rfl rfl h1 hdd hb (Nat.le_of_ble_eq_true rfl) (fun r G37 hz => ?_) hkx
  obtain ⟨rfl, h⟩ := hk r G37 hz
  obtain ⟨h1, h⟩ := h
  obtain ⟨G39, hG⟩ : ∃ z, z = zsr G37 q0 6 q_34 := ⟨_, rfl⟩
  have h := h _ hG
  refine z_putR (ci := 12) (kf := 6) (pc' := 71) dX11_init_68 kX11_46 (Or.inl rfl) (by decide) (by decide) rfl (Or.inr ⟨rfl, rfl⟩) rfl h1 ?_
  refine z_st hG ?_
  refine z_aload_n (pc' := 72) dX11_init_71 rfl rfl ?_
  obtain ⟨h1, t40, h2, h3, h4, h⟩ := h
  obtain ⟨q_41, hq⟩ : ∃ z, z = zp t40 (zcn G39 t40) := ⟨_, rfl⟩
  obtain ⟨G42, hG⟩ : ∃ z, z = znw G39 t40 0 := ⟨_, rfl⟩
  have h := h _ hq _ hG _ rfl
  refine z_new (ci := 10) (t := t40) (pc' := 75) dX11_init_72 kX11_50 n10_inst n10_ini (by decide) rfl h2 h3 h4 h1 (z_df (by decide)) ?_
  refine z_mk hq hG ?_
  refine z_dup (pc' := 76) dX11_init_75 rfl rfl ?_
  obtain ⟨h1, h⟩ := h
  obtain ⟨d1, b1, Qz, hm, hdd, hb, hkx, hk⟩ := h
  refine z_callN (host := RX11) (Y := mX9_init) (n := 0) (as := []) (st := [.ref q_41, .ref q0]) (pc' := 79) (q := q_41) hm dX11_init_76 zne_X11_52 iX9_init rfl rfl h1 hdd hb (Nat.le_of_ble_eq_true rfl) (fun r G44 hz => ?_) hkx
  obtain ⟨rfl, h⟩ := hk r G44 hz
  obtain ⟨h1, h⟩ := h
  obtain ⟨G46, hG⟩ : ∃ z, z = zsr G44 q0 7 q_41 := ⟨_, rfl⟩
  have h := h _ hG
  refine z_putR (ci := 12) (kf := 7) (pc' := 82) dX11_init_79 kX11_53 (Or.inl rfl) (by decide) (by decide) rfl (Or.inr ⟨rfl, rfl⟩) rfl h1 ?_
  refine z_st hG ?_
  refine z_aload_n (pc' := 83) dX11_init_82 rfl rfl ?_
  obtain ⟨h1, t47, h2, h3, h4, h⟩ := h
  obtain ⟨q_48, hq⟩ : ∃ z, z = zp t47 (zcn G46 t47) := ⟨_, rfl⟩
  obtain ⟨G49, hG⟩ : ∃ z, z = znw G46 t47 0 := ⟨_, rfl⟩
  have h := h _ hq _ hG _ rfl
  refine z_new (ci := 7) (t := t47) (pc' := 86) dX11_init_83 kX11_57 n7_inst n7_ini (by decide) rfl h2 h3 h4 h1 (z_df (by decide)) ?_
  refine z_mk hq hG ?_
  refine z_dup (pc' := 87) dX11_init_86 rfl rfl ?_
  refine z_aload_n (pc' := 88) dX11_init_87 rfl rfl ?_
  obtain ⟨h1, h⟩ := h
  refine z_getR (ci := 12) (kf := 5) (pc' := 91) dX11_init_88 kX11_39 (Or.inl rfl) (by decide) (by decide) rfl rfl h1 ?_
  refine z_aload_n (pc' := 92) dX11_init_91 rfl rfl ?_
  obtain ⟨h1, h⟩ := h
  refine z_getR (ci := 12) (kf := 6) (pc' := 95) dX11_init_92 kX11_46 (Or.inl rfl) (by decide) (by decide) rfl rfl h1 ?_
  refine z_aload_n (pc' := 96) dX11_init_95 rfl rfl ?_
  obtain ⟨h1, h⟩ := h
  refine z_getR (ci := 12) (kf := 7) (pc' := 99) dX11_init_96 kX11_53 (Or.inl rfl) (by decide) (by decide) rfl rfl h1 ?_
  obtain ⟨h1, h⟩ := h
  obtain ⟨d1, b1, Qz, hm, hdd, hb, hkx, hk⟩ := h
  refine z_callI (Y := mX6_init) (n := 3) (as := [.ref (zrv G49 q0 5), .ref (zrv G49 q0 6), .ref (zrv G49 q0 7)]) (st := [.ref q_48, .ref q0]) (pc' := 102) (q := q_48) hm dX11_init_99 kX11_59 iX6_init rfl rfl h1 hdd hb (Nat.le_of_ble_eq_true rfl) (fun r G51 hz => ?_) hkx
  obtain ⟨rfl, h⟩ := hk r G51 hz
  obtain ⟨h1, h⟩ := h
  obtain ⟨G53, hG⟩ : ∃ z, z = zsr G51 q0 8 q_48 := ⟨_, rfl⟩
  have h := h _ hG
  refine z_putR (ci := 12) (kf := 8) (pc' := 105) dX11_init_102 kX11_62 (Or.inl rfl) (by decide) (by decide) rfl (Or.inr ⟨rfl, rfl⟩) rfl h1 ?_
  refine z_st hG ?_
  refine z_aload_n (pc' := 106) dX11_init_105 rfl rfl ?_
  obtain ⟨h1, t54, h2, h3, h4, h⟩ := h
  obtain ⟨q_55, hq⟩ : ∃ z, z = zp t54 (zcn G53 t54) := ⟨_, rfl⟩
  obtain ⟨G56, hG⟩ : ∃ z, z = znw G53 t54 0 := ⟨_, rfl⟩
  have h := h _ hq _ hG _ rfl
  refine z_new (ci := 7) (t := t54) (pc' := 109) dX11_init_106 kX11_57 n7_inst n7_ini (by decide) rfl h2 h3 h4 h1 (z_df (by decide)) ?_
  refine z_mk hq hG ?_
  refine z_dup (pc' := 110) dX11_init_109 rfl rfl ?_
  refine z_aload_n (pc' := 111) dX11_init_110 rfl rfl ?_
  obtain ⟨h1, h⟩ := h
  refine z_getR (ci := 12) (kf := 5) (pc' := 114) dX11_init_111 kX11_39 (Or.inl rfl) (by decide) (by decide) rfl rfl h1 ?_
  refine z_aload_n (pc' := 115) dX11_init_114 rfl rfl ?_
  obtain ⟨h1, h⟩ := h
  refine z_getR (ci := 12) (kf := 6) (pc' := 118) dX11_init_115 kX11_46 (Or.inl rfl) (by decide) (by decide) rfl rfl h1 ?_
  refine z_aload_n (pc' := 119) dX11_init_118 rfl rfl ?_
  obtain ⟨h1, h⟩ := h
  refine z_getR (ci := 12) (kf := 7) (pc' := 122) dX11_init_119 kX11_53 (Or.inl rfl) (by decide) (by decide) rfl rfl h1 ?_
  obtain ⟨h1, h⟩ := h
  obtain ⟨d1, b1, Qz, hm, hdd, hb, hkx, hk⟩ := h
  refine z_callI (Y := mX6_init) (n := 3) (as := [.ref (zrv G56 q0 5), .ref (zrv G56 q0 6), .ref (zrv G56 q0 7)]) (st := [.ref q_55, .ref q0]) (pc' := 125) (q := q_55) hm dX11_init_122 kX11_59 iX6_init rfl rfl h1 hdd hb (Nat.le_of_ble_eq_true rfl) (fun r G58 hz => ?_) hkx
  obtain ⟨rfl, h⟩ := hk r G58 hz
  obtain ⟨h1, h⟩ := h
  obtain ⟨G60, hG⟩ : ∃ z, z = zsr G58 q0 9 q_55 := ⟨_, rfl⟩
  have h := h _ hG
  refine z_putR (ci := 12) (kf := 9) (pc' := 128) dX11_init_125 kX11_66 (Or.inl rfl) (by decide) (by decide) rfl (Or.inr ⟨rfl, rfl⟩) rfl h1 ?_
  refine z_st hG ?_
  exact z_vret dX11_init_128 rfl h
def wp_X11_isFace_0 (E : ZE) (l : Launch) (d b : Nat) (G0 : ZG) (Q : ZQ) (k : Nat) (x0 : Int32) (G : ZG) : Prop :=
  ((x0 < 0 →
    Q (.inl (some (.int 0))) G) ∧
  (¬ (x0 < 0) →
    ((99 < x0 →
      Q (.inl (some (.int 0))) G) ∧
    (¬ (99 < x0) →
      Q (.inl (some (.int 1))) G))))
theorem wpt_X11_isFace_0 {E : ZE} {l : Launch} {d b : Nat} {G0 : ZG} {Q : ZQ} {k : Nat} {x0 : Int32} {G : ZG} (h : wp_X11_isFace_0 E l d b G0 Q k x0 G) : zW E l mX11_isFace d b G0 Q k 0 [some (.int x0)] [] G := by
  unfold wp_X11_isFace_0 at h
  refine z_iload_n (pc' := 1) dX11_isFace_0 rfl rfl ?_
  refine z_if_lt (pt := 14) (pc' := 4) dX11_isFace_1 (by decide) rfl (fun hc => ?_) (fun hc => ?_)
  · have h := h.1 hc
    refine z_iconst (x := 0) (pc' := 15) dX11_isFace_14 (by decide) rfl ?_
    exact z_zret (ty := .boolean) dX11_isFace_15 rfl (by decide) h
  · have h := h.2 hc
    refine z_iload_n (pc' := 5) dX11_isFace_4 rfl rfl ?_
    refine z_bipush (x := 99) (pc' := 7) dX11_isFace_5 (by decide) rfl ?_
    refine z_icmp_gt (pt := 14) (pc' := 10) dX11_isFace_7 (by decide) rfl (fun hc => ?_) (fun hc => ?_)
    · have h := h.1 hc
      refine z_iconst (x := 0) (pc' := 15) dX11_isFace_14 (by decide) rfl ?_
      exact z_zret (ty := .boolean) dX11_isFace_15 rfl (by decide) h
    · have h := h.2 hc
      refine z_iconst (x := 1) (pc' := 11) dX11_isFace_10 (by decide) rfl ?_
      refine z_goto (pc' := 15) dX11_isFace_11 (by decide) ?_
      exact z_zret (ty := .boolean) dX11_isFace_15 rfl (by decide) h
def wp_X11_isItems_0 (E : ZE) (l : Launch) (d b : Nat) (G0 : ZG) (Q : ZQ) (k : Nat) (x0 : Int32) (G : ZG) : Prop :=
  ((x0 < 0 →
    Q (.inl (some (.int 0))) G) ∧
  (¬ (x0 < 0) →
    ((255 < x0 →
      Q (.inl (some (.int 0))) G) ∧
    (¬ (255 < x0) →
      Q (.inl (some (.int 1))) G))))
theorem wpt_X11_isItems_0 {E : ZE} {l : Launch} {d b : Nat} {G0 : ZG} {Q : ZQ} {k : Nat} {x0 : Int32} {G : ZG} (h : wp_X11_isItems_0 E l d b G0 Q k x0 G) : zW E l mX11_isItems d b G0 Q k 0 [some (.int x0)] [] G := by
  unfold wp_X11_isItems_0 at h
  refine z_iload_n (pc' := 1) dX11_isItems_0 rfl rfl ?_
  refine z_if_lt (pt := 15) (pc' := 4) dX11_isItems_1 (by decide) rfl (fun hc => ?_) (fun hc => ?_)
  · have h := h.1 hc
    refine z_iconst (x := 0) (pc' := 16) dX11_isItems_15 (by decide) rfl ?_
    exact z_zret (ty := .boolean) dX11_isItems_16 rfl (by decide) h
  · have h := h.2 hc
    refine z_iload_n (pc' := 5) dX11_isItems_4 rfl rfl ?_
    refine z_sipush (x := 255) (pc' := 8) dX11_isItems_5 (by decide) rfl ?_
    refine z_icmp_gt (pt := 15) (pc' := 11) dX11_isItems_8 (by decide) rfl (fun hc => ?_) (fun hc => ?_)
    · have h := h.1 hc
      refine z_iconst (x := 0) (pc' := 16) dX11_isItems_15 (by decide) rfl ?_
      exact z_zret (ty := .boolean) dX11_isItems_16 rfl (by decide) h
    · have h := h.2 hc
      refine z_iconst (x := 1) (pc' := 12) dX11_isItems_11 (by decide) rfl ?_
      refine z_goto (pc' := 16) dX11_isItems_12 (by decide) ?_
      exact z_zret (ty := .boolean) dX11_isItems_16 rfl (by decide) h
def wp_X11_isKind_0 (E : ZE) (l : Launch) (d b : Nat) (G0 : ZG) (Q : ZQ) (k : Nat) (x0 : Int32) (G : ZG) : Prop :=
  ((x0 < 0 →
    Q (.inl (some (.int 0))) G) ∧
  (¬ (x0 < 0) →
    ((4 ≤ x0 →
      Q (.inl (some (.int 0))) G) ∧
    (¬ (4 ≤ x0) →
      Q (.inl (some (.int 1))) G))))
theorem wpt_X11_isKind_0 {E : ZE} {l : Launch} {d b : Nat} {G0 : ZG} {Q : ZQ} {k : Nat} {x0 : Int32} {G : ZG} (h : wp_X11_isKind_0 E l d b G0 Q k x0 G) : zW E l mX11_isKind d b G0 Q k 0 [some (.int x0)] [] G := by
  unfold wp_X11_isKind_0 at h
  refine z_iload_n (pc' := 1) dX11_isKind_0 rfl rfl ?_
  refine z_if_lt (pt := 13) (pc' := 4) dX11_isKind_1 (by decide) rfl (fun hc => ?_) (fun hc => ?_)
  · have h := h.1 hc
    refine z_iconst (x := 0) (pc' := 14) dX11_isKind_13 (by decide) rfl ?_
    exact z_zret (ty := .boolean) dX11_isKind_14 rfl (by decide) h
  · have h := h.2 hc
    refine z_iload_n (pc' := 5) dX11_isKind_4 rfl rfl ?_
    refine z_iconst (x := 4) (pc' := 6) dX11_isKind_5 (by decide) rfl ?_
    refine z_icmp_ge (pt := 13) (pc' := 9) dX11_isKind_6 (by decide) rfl (fun hc => ?_) (fun hc => ?_)
    · have h := h.1 hc
      refine z_iconst (x := 0) (pc' := 14) dX11_isKind_13 (by decide) rfl ?_
      exact z_zret (ty := .boolean) dX11_isKind_14 rfl (by decide) h
    · have h := h.2 hc
      refine z_iconst (x := 1) (pc' := 10) dX11_isKind_9 (by decide) rfl ?_
      refine z_goto (pc' := 14) dX11_isKind_10 (by decide) ?_
      exact z_zret (ty := .boolean) dX11_isKind_14 rfl (by decide) h
def wp_X11_isOrder_0 (E : ZE) (l : Launch) (d b : Nat) (G0 : ZG) (Q : ZQ) (k : Nat) (x0 : Int32) (G : ZG) : Prop :=
  ((x0 < 0 →
    Q (.inl (some (.int 0))) G) ∧
  (¬ (x0 < 0) →
    ((3 ≤ x0 →
      Q (.inl (some (.int 0))) G) ∧
    (¬ (3 ≤ x0) →
      Q (.inl (some (.int 1))) G))))
theorem wpt_X11_isOrder_0 {E : ZE} {l : Launch} {d b : Nat} {G0 : ZG} {Q : ZQ} {k : Nat} {x0 : Int32} {G : ZG} (h : wp_X11_isOrder_0 E l d b G0 Q k x0 G) : zW E l mX11_isOrder d b G0 Q k 0 [some (.int x0)] [] G := by
  unfold wp_X11_isOrder_0 at h
  refine z_iload_n (pc' := 1) dX11_isOrder_0 rfl rfl ?_
  refine z_if_lt (pt := 13) (pc' := 4) dX11_isOrder_1 (by decide) rfl (fun hc => ?_) (fun hc => ?_)
  · have h := h.1 hc
    refine z_iconst (x := 0) (pc' := 14) dX11_isOrder_13 (by decide) rfl ?_
    exact z_zret (ty := .boolean) dX11_isOrder_14 rfl (by decide) h
  · have h := h.2 hc
    refine z_iload_n (pc' := 5) dX11_isOrder_4 rfl rfl ?_
    refine z_iconst (x := 3) (pc' := 6) dX11_isOrder_5 (by decide) rfl ?_
    refine z_icmp_ge (pt := 13) (pc' := 9) dX11_isOrder_6 (by decide) rfl (fun hc => ?_) (fun hc => ?_)
    · have h := h.1 hc
      refine z_iconst (x := 0) (pc' := 14) dX11_isOrder_13 (by decide) rfl ?_
      exact z_zret (ty := .boolean) dX11_isOrder_14 rfl (by decide) h
    · have h := h.2 hc
      refine z_iconst (x := 1) (pc' := 10) dX11_isOrder_9 (by decide) rfl ?_
      refine z_goto (pc' := 14) dX11_isOrder_10 (by decide) ?_
      exact z_zret (ty := .boolean) dX11_isOrder_14 rfl (by decide) h
def wp_X11_isWanted_0 (E : ZE) (l : Launch) (d b : Nat) (G0 : ZG) (Q : ZQ) (k : Nat) (q0 : Nat) (x1 : Int32) (G : ZG) : Prop :=
  zob G q0 12 ∧
  zob G (zrv G q0 8) 7 ∧
  ((x1 < (ziv G (zrv G q0 8) 6) →
    Q (.inl (some (.int 0))) G) ∧
  (¬ (x1 < (ziv G (zrv G q0 8) 6)) →
    ((1000 < x1 →
      Q (.inl (some (.int 0))) G) ∧
    (¬ (1000 < x1) →
      Q (.inl (some (.int 1))) G))))
theorem wpt_X11_isWanted_0 {E : ZE} {l : Launch} {d b : Nat} {G0 : ZG} {Q : ZQ} {k : Nat} {q0 : Nat} {x1 : Int32} {G : ZG} (h : wp_X11_isWanted_0 E l d b G0 Q k q0 x1 G) : zW E l mX11_isWanted d b G0 Q k 0 [some (.ref q0), some (.int x1)] [] G := by
  unfold wp_X11_isWanted_0 at h
  refine z_iload_n (pc' := 1) dX11_isWanted_0 rfl rfl ?_
  refine z_aload_n (pc' := 2) dX11_isWanted_1 rfl rfl ?_
  obtain ⟨h1, h⟩ := h
  refine z_getR (ci := 12) (kf := 8) (pc' := 5) dX11_isWanted_2 kX11_62 (Or.inl rfl) (by decide) (by decide) rfl rfl h1 ?_
  obtain ⟨h1, h⟩ := h
  refine z_getI (ci := 7) (kf := 6) (pc' := 8) dX11_isWanted_5 kX11_83 (Or.inl rfl) (by decide) (by decide) rfl rfl h1 ?_
  refine z_icmp_lt (pt := 22) (pc' := 11) dX11_isWanted_8 (by decide) rfl (fun hc => ?_) (fun hc => ?_)
  · have h := h.1 hc
    refine z_iconst (x := 0) (pc' := 23) dX11_isWanted_22 (by decide) rfl ?_
    exact z_zret (ty := .boolean) dX11_isWanted_23 rfl (by decide) h
  · have h := h.2 hc
    refine z_iload_n (pc' := 12) dX11_isWanted_11 rfl rfl ?_
    refine z_sipush (x := 1000) (pc' := 15) dX11_isWanted_12 (by decide) rfl ?_
    refine z_icmp_gt (pt := 22) (pc' := 18) dX11_isWanted_15 (by decide) rfl (fun hc => ?_) (fun hc => ?_)
    · have h := h.1 hc
      refine z_iconst (x := 0) (pc' := 23) dX11_isWanted_22 (by decide) rfl ?_
      exact z_zret (ty := .boolean) dX11_isWanted_23 rfl (by decide) h
    · have h := h.2 hc
      refine z_iconst (x := 1) (pc' := 19) dX11_isWanted_18 (by decide) rfl ?_
      refine z_goto (pc' := 23) dX11_isWanted_19 (by decide) ?_
      exact z_zret (ty := .boolean) dX11_isWanted_23 rfl (by decide) h
def wp_X11_judge_0 (E : ZE) (l : Launch) (d b : Nat) (G0 : ZG) (Q : ZQ) (k : Nat) (q0 : Nat) (x1 : Int32) (x2 : Int32) (x3 : Int32) (x4 : Int32) (x5 : Int32) (G : ZG) : Prop :=
  zob G q0 12 ∧
  xcR E l mX11_personAt d [.ref q0, .int x1] G k (fun X G9 => Q (.inr X) G9) (fun y1 G2 k3 =>
  xcI E l mX11_isKind d [.int x2] G2 k3 (fun X G9 => Q (.inr X) G9) (fun y4 G5 k6 =>
  ((y4 = 0 →
    zW E l mX11_judge d b G0 Q k6 27 [some (.ref q0), none, some (.int x2), some (.int x3), some (.int x4), some (.int x5), some (.ref y1), none] [.int 0] G5) ∧
  (¬ (y4 = 0) →
    zob G5 q0 12 ∧
    xcI E l mX11_isWanted d [.ref q0, .int x3] G5 k6 (fun X G9 => Q (.inr X) G9) (fun y7 G8 k9 =>
    ((y7 = 0 →
      zW E l mX11_judge d b G0 Q k9 27 [some (.ref q0), none, some (.int x2), some (.int x3), some (.int x4), some (.int x5), some (.ref y1), none] [.int 0] G8) ∧
    (¬ (y7 = 0) →
      zW E l mX11_judge d b G0 Q k9 27 [some (.ref q0), none, some (.int x2), some (.int x3), some (.int x4), some (.int x5), some (.ref y1), none] [.int 1] G8)))))))
theorem wpt_X11_judge_0 {E : ZE} {l : Launch} {d b : Nat} {G0 : ZG} {Q : ZQ} {k : Nat} {q0 : Nat} {x1 : Int32} {x2 : Int32} {x3 : Int32} {x4 : Int32} {x5 : Int32} {G : ZG} (htr : l.stackTraces = false) (h : wp_X11_judge_0 E l d b G0 Q k q0 x1 x2 x3 x4 x5 G) : zW E l mX11_judge d b G0 Q k 0 [some (.ref q0), some (.int x1), some (.int x2), some (.int x3), some (.int x4), some (.int x5), none, none] [] G := by
  unfold wp_X11_judge_0 at h
  refine z_aload_n (pc' := 1) dX11_judge_0 rfl rfl ?_
  refine z_iload_n (pc' := 2) dX11_judge_1 rfl rfl ?_
  obtain ⟨h1, h⟩ := h
  obtain ⟨d1, b1, Qz, hm, hdd, hb, hkx, hk⟩ := h
  refine z_callV (Y := mX11_personAt) (n := 1) (as := [.int x1]) (st := []) (pc' := 5) (ci := 12) (q := q0) hm dX11_judge_2 kX11_134 vX11_personAt rfl rfl (by decide) rfl h1 hdd hb (Nat.le_of_ble_eq_true rfl) (fun r G2 hz => ?_) hkx
  obtain ⟨y1, rfl, h⟩ := hk r G2 hz
  refine z_astore (pc' := 7) dX11_judge_5 (by decide) rfl ?_
  refine z_iload_n (pc' := 8) dX11_judge_7 rfl rfl ?_
  obtain ⟨d1, b1, Qz, hm, hdd, hb, hkx, hk⟩ := h
  refine z_callS (Y := mX11_isKind) (n := 1) (as := [.int x2]) (st := []) (pc' := 11) hm dX11_judge_8 kX11_170 sX11_isKind rfl rfl hdd hb (Nat.le_of_ble_eq_true rfl) (fun r G5 hz => ?_) hkx
  obtain ⟨y4, rfl, h⟩ := hk r G5 hz
  refine z_if_eq (pt := 26) (pc' := 14) dX11_judge_11 (by decide) rfl (fun hc => ?_) (fun hc => ?_)
  · have h := h.1 hc
    refine z_iconst (x := 0) (pc' := 27) dX11_judge_26 (by decide) rfl ?_
    exact z_dr (ls' := [some (.ref q0), none, some (.int x2), some (.int x3), some (.int x4), some (.int x5), some (.ref y1), none]) ⟨rfl, rfl, rfl, rfl, rfl, rfl, trivial⟩ h
  · have h := h.2 hc
    refine z_aload_n (pc' := 15) dX11_judge_14 rfl rfl ?_
    refine z_iload_n (pc' := 16) dX11_judge_15 rfl rfl ?_
    obtain ⟨h1, h⟩ := h
    obtain ⟨d1, b1, Qz, hm, hdd, hb, hkx, hk⟩ := h
    refine z_callV (Y := mX11_isWanted) (n := 1) (as := [.int x3]) (st := []) (pc' := 19) (ci := 12) (q := q0) hm dX11_judge_16 kX11_173 vX11_isWanted rfl rfl (by decide) rfl h1 hdd hb (Nat.le_of_ble_eq_true rfl) (fun r G8 hz => ?_) hkx
    obtain ⟨y7, rfl, h⟩ := hk r G8 hz
    refine z_if_eq (pt := 26) (pc' := 22) dX11_judge_19 (by decide) rfl (fun hc => ?_) (fun hc => ?_)
    · have h := h.1 hc
      refine z_iconst (x := 0) (pc' := 27) dX11_judge_26 (by decide) rfl ?_
      exact z_dr (ls' := [some (.ref q0), none, some (.int x2), some (.int x3), some (.int x4), some (.int x5), some (.ref y1), none]) ⟨rfl, rfl, rfl, rfl, rfl, rfl, trivial⟩ h
    · have h := h.2 hc
      refine z_iconst (x := 1) (pc' := 23) dX11_judge_22 (by decide) rfl ?_
      refine z_goto (pc' := 27) dX11_judge_23 (by decide) ?_
      exact z_dr (ls' := [some (.ref q0), none, some (.int x2), some (.int x3), some (.int x4), some (.int x5), some (.ref y1), none]) ⟨rfl, rfl, rfl, rfl, rfl, rfl, trivial⟩ h
def wp_X11_judge_27 (E : ZE) (l : Launch) (d b : Nat) (G0 : ZG) (Q : ZQ) (k : Nat) (q0 : Nat) (x2 : Int32) (x3 : Int32) (x4 : Int32) (x5 : Int32) (q6 : Nat) (s0 : Int32) (G : ZG) : Prop :=
  xcV E l mX11_demand d [.int s0] G k (fun X G9 => Q (.inr X) G9) (fun G1 k2 =>
  zob G1 q0 12 ∧
  xcR E l mX11_lawOfToday d [.ref q0] G1 k2 (fun X G9 => Q (.inr X) G9) (fun y3 G4 k5 =>
  zob G4 q0 12 ∧
  xcR E l mX11_factsOf d [.ref q0, .ref q6, .int x2, .int x3, .int x4] G4 k5 (fun X G9 => Q (.inr X) G9) (fun y6 G7 k8 =>
  zob G7 y3 4 ∧
  xcR E l mX3_verdictOn d [.ref y3, .ref y6] G7 k8 (fun X G9 => Q (.inr X) G9) (fun y9 G10 k11 =>
  ((x5 = 0 →
    zob G10 y9 11 ∧
    Q (.inl (some (.int (ziv G10 y9 0)))) G10) ∧
  ((x5 = 1 →
    zob G10 y9 11 ∧
    Q (.inl (some (.int (ziv G10 y9 1)))) G10) ∧
  ((x5 = 2 →
    zob G10 y9 11 ∧
    xcI E l mX10_validYears d [.ref y9] G10 k11 (fun X G9 => Q (.inr X) G9) (fun y12 G13 k14 =>
    Q (.inl (some (.int y12))) G13)) ∧
  ((x5 = 3 →
    zob G10 y9 11 ∧
    Q (.inl (some (.int (ziv G10 y9 2)))) G10) ∧
  ((x5 = 4 →
    zob G10 y9 11 ∧
    (((ziv G10 y9 4) = 0 →
      Q (.inl (some (.int 0))) G10) ∧
    (¬ ((ziv G10 y9 4) = 0) →
      Q (.inl (some (.int 1))) G10))) ∧
  ((x5 = 5 →
    zob G10 y9 11 ∧
    Q (.inl (some (.int (ziv G10 y9 3)))) G10) ∧
  (¬ x5 = 0 → ¬ x5 = 1 → ¬ x5 = 2 → ¬ x5 = 3 → ¬ x5 = 4 → ¬ x5 = 5 →
    7 ≤ k11 ∧ 6 ≤ d ∧ Q (.inr "java/util/NoSuchElementException") G10)))))))))))
theorem wpt_X11_judge_27 {E : ZE} {l : Launch} {d b : Nat} {G0 : ZG} {Q : ZQ} {k : Nat} {q0 : Nat} {x2 : Int32} {x3 : Int32} {x4 : Int32} {x5 : Int32} {q6 : Nat} {s0 : Int32} {G : ZG} (htr : l.stackTraces = false) (h : wp_X11_judge_27 E l d b G0 Q k q0 x2 x3 x4 x5 q6 s0 G) : zW E l mX11_judge d b G0 Q k 27 [some (.ref q0), none, some (.int x2), some (.int x3), some (.int x4), some (.int x5), some (.ref q6), none] [.int s0] G := by
  unfold wp_X11_judge_27 at h
  obtain ⟨d1, b1, Qz, hm, hdd, hb, hkx, hk⟩ := h
  refine z_callS (Y := mX11_demand) (n := 1) (as := [.int s0]) (st := []) (pc' := 30) hm dX11_judge_27 kX11_86 sX11_demand rfl rfl hdd hb (Nat.le_of_ble_eq_true rfl) (fun r G1 hz => ?_) hkx
  obtain ⟨rfl, h⟩ := hk r G1 hz
  refine z_aload_n (pc' := 31) dX11_judge_30 rfl rfl ?_
  obtain ⟨h1, h⟩ := h
  obtain ⟨d1, b1, Qz, hm, hdd, hb, hkx, hk⟩ := h
  refine z_callV (Y := mX11_lawOfToday) (n := 0) (as := []) (st := []) (pc' := 34) (ci := 12) (q := q0) hm dX11_judge_31 kX11_176 vX11_lawOfToday rfl rfl (by decide) rfl h1 hdd hb (Nat.le_of_ble_eq_true rfl) (fun r G4 hz => ?_) hkx
  obtain ⟨y3, rfl, h⟩ := hk r G4 hz
  refine z_aload_n (pc' := 35) dX11_judge_34 rfl rfl ?_
  refine z_aload (pc' := 37) dX11_judge_35 rfl rfl ?_
  refine z_iload_n (pc' := 38) dX11_judge_37 rfl rfl ?_
  refine z_iload_n (pc' := 39) dX11_judge_38 rfl rfl ?_
  refine z_iload (pc' := 41) dX11_judge_39 rfl rfl ?_
  obtain ⟨h1, h⟩ := h
  obtain ⟨d1, b1, Qz, hm, hdd, hb, hkx, hk⟩ := h
  refine z_callV (Y := mX11_factsOf) (n := 4) (as := [.ref q6, .int x2, .int x3, .int x4]) (st := [.ref y3]) (pc' := 44) (ci := 12) (q := q0) hm dX11_judge_41 kX11_180 vX11_factsOf rfl rfl (by decide) rfl h1 hdd hb (Nat.le_of_ble_eq_true rfl) (fun r G7 hz => ?_) hkx
  obtain ⟨y6, rfl, h⟩ := hk r G7 hz
  obtain ⟨h1, h⟩ := h
  obtain ⟨d1, b1, Qz, hm, hdd, hb, hkx, hk⟩ := h
  refine z_callV (Y := mX3_verdictOn) (n := 1) (as := [.ref y6]) (st := []) (pc' := 47) (ci := 4) (q := y3) hm dX11_judge_44 kX11_90 vX3_verdictOn rfl rfl (by decide) rfl h1 hdd hb (Nat.le_of_ble_eq_true rfl) (fun r G10 hz => ?_) hkx
  obtain ⟨y9, rfl, h⟩ := hk r G10 hz
  refine z_astore (pc' := 49) dX11_judge_47 (by decide) rfl ?_
  refine z_iload (pc' := 51) dX11_judge_49 rfl rfl ?_
  by_cases hc0 : x5 = 0
  · have h := h.1 hc0
    refine z_tableIn (off := 37) (pt := 88) dX11_judge_51 (by rw [hc0]; decide) (by rw [hc0]; decide) (by rw [hc0]; decide) (by decide) ?_
    refine z_aload (pc' := 90) dX11_judge_88 rfl rfl ?_
    obtain ⟨h1, h⟩ := h
    refine z_getI (ci := 11) (kf := 0) (pc' := 93) dX11_judge_90 kX11_184 (Or.inl rfl) (by decide) (by decide) rfl rfl h1 ?_
    exact z_iret dX11_judge_93 rfl h
  have h := h.2
  by_cases hc1 : x5 = 1
  · have h := h.1 hc1
    refine z_tableIn (off := 43) (pt := 94) dX11_judge_51 (by rw [hc1]; decide) (by rw [hc1]; decide) (by rw [hc1]; decide) (by decide) ?_
    refine z_aload (pc' := 96) dX11_judge_94 rfl rfl ?_
    obtain ⟨h1, h⟩ := h
    refine z_getI (ci := 11) (kf := 1) (pc' := 99) dX11_judge_96 kX11_189 (Or.inl rfl) (by decide) (by decide) rfl rfl h1 ?_
    exact z_iret dX11_judge_99 rfl h
  have h := h.2
  by_cases hc2 : x5 = 2
  · have h := h.1 hc2
    refine z_tableIn (off := 49) (pt := 100) dX11_judge_51 (by rw [hc2]; decide) (by rw [hc2]; decide) (by rw [hc2]; decide) (by decide) ?_
    refine z_aload (pc' := 102) dX11_judge_100 rfl rfl ?_
    obtain ⟨h1, h⟩ := h
    obtain ⟨d1, b1, Qz, hm, hdd, hb, hkx, hk⟩ := h
    refine z_callV (Y := mX10_validYears) (n := 0) (as := []) (st := []) (pc' := 105) (ci := 11) (q := y9) hm dX11_judge_102 kX11_192 vX10_validYears rfl rfl (by decide) rfl h1 hdd hb (Nat.le_of_ble_eq_true rfl) (fun r G13 hz => ?_) hkx
    obtain ⟨y12, rfl, h⟩ := hk r G13 hz
    exact z_iret dX11_judge_105 rfl h
  have h := h.2
  by_cases hc3 : x5 = 3
  · have h := h.1 hc3
    refine z_tableIn (off := 55) (pt := 106) dX11_judge_51 (by rw [hc3]; decide) (by rw [hc3]; decide) (by rw [hc3]; decide) (by decide) ?_
    refine z_aload (pc' := 108) dX11_judge_106 rfl rfl ?_
    obtain ⟨h1, h⟩ := h
    refine z_getI (ci := 11) (kf := 2) (pc' := 111) dX11_judge_108 kX11_195 (Or.inl rfl) (by decide) (by decide) rfl rfl h1 ?_
    exact z_iret dX11_judge_111 rfl h
  have h := h.2
  by_cases hc4 : x5 = 4
  · have h := h.1 hc4
    refine z_tableIn (off := 61) (pt := 112) dX11_judge_51 (by rw [hc4]; decide) (by rw [hc4]; decide) (by rw [hc4]; decide) (by decide) ?_
    refine z_aload (pc' := 114) dX11_judge_112 rfl rfl ?_
    obtain ⟨h1, h⟩ := h
    refine z_getI (ci := 11) (kf := 4) (pc' := 117) dX11_judge_114 kX11_198 (Or.inl rfl) (by decide) (by decide) rfl rfl h1 ?_
    refine z_if_eq (pt := 124) (pc' := 120) dX11_judge_117 (by decide) rfl (fun hc => ?_) (fun hc => ?_)
    · have h := h.1 hc
      refine z_iconst (x := 0) (pc' := 125) dX11_judge_124 (by decide) rfl ?_
      exact z_iret dX11_judge_125 rfl h
    · have h := h.2 hc
      refine z_iconst (x := 1) (pc' := 121) dX11_judge_120 (by decide) rfl ?_
      refine z_goto (pc' := 125) dX11_judge_121 (by decide) ?_
      exact z_iret dX11_judge_125 rfl h
  have h := h.2
  by_cases hc5 : x5 = 5
  · have h := h.1 hc5
    refine z_tableIn (off := 75) (pt := 126) dX11_judge_51 (by rw [hc5]; decide) (by rw [hc5]; decide) (by rw [hc5]; decide) (by decide) ?_
    refine z_aload (pc' := 128) dX11_judge_126 rfl rfl ?_
    obtain ⟨h1, h⟩ := h
    refine z_getI (ci := 11) (kf := 3) (pc' := 131) dX11_judge_128 kX11_202 (Or.inl rfl) (by decide) (by decide) rfl rfl h1 ?_
    exact z_iret dX11_judge_131 rfl h
  have h := h.2
  have h := h hc0 hc1 hc2 hc3 hc4 hc5
  refine z_tableOut (pt := 132) dX11_judge_51 (by have e0 := lv_neT (a := 0) hc0 (by decide); have e1 := lv_neT (a := 1) hc1 (by decide); have e2 := lv_neT (a := 2) hc2 (by decide); have e3 := lv_neT (a := 3) hc3 (by decide); have e4 := lv_neT (a := 4) hc4 (by decide); have e5 := lv_neT (a := 5) hc5 (by decide); omega) (by decide) ?_
  exact z_throw (names := ["java/lang/RuntimeException", "java/lang/Exception"]) htr dX11_judge_132 dX11_judge_135 dX11_judge_136 dX11_judge_139 rfl (by decide) kX11_205 x_NoSuchElementException h.2.1 (by decide) (Nat.le_of_ble_eq_true rfl) h.1 tX11_207 h.2.2
def wp_X11_latestWaits_0 (E : ZE) (l : Launch) (d b : Nat) (G0 : ZG) (Q : ZQ) (k : Nat) (q0 : Nat) (x1 : Int32) (G : ZG) : Prop :=
  zob G q0 12 ∧
  zob G (zrv G q0 8) 7 ∧
  zob G (zrv G (zrv G q0 8) 3) 0 ∧
  xcI E l mJx4a65c_size_8abf5 d [.ref (zrv G (zrv G q0 8) 3)] G k (fun X G9 => Q (.inr X) G9) (fun y1 G2 k3 =>
  ¬ y1 < 0 ∧ y1.toNatClampNeg ≤ 67108864 ∧ y1.toNatClampNeg + 1 ≤ k3 ∧ ∃ t4, 1024 ≤ t4 ∧ t4 < 3584 ∧ (t4 - 1024) / 512 = 0 ∧
  ∀ q_5, q_5 = zp t4 (zcn G2 t4) → ∀ G6, G6 = znw G2 t4 y1.toNatClampNeg → ∀ k7, k7 = k3 - (y1.toNatClampNeg + 1) →
  zW E l mX11_latestWaits d b G0 Q k7 18 [some (.ref q0), some (.int x1), some (.ref q_5), some (.int 0), some (.int 0), none] [] G6)
theorem wpt_X11_latestWaits_0 {E : ZE} {l : Launch} {d b : Nat} {G0 : ZG} {Q : ZQ} {k : Nat} {q0 : Nat} {x1 : Int32} {G : ZG} (h : wp_X11_latestWaits_0 E l d b G0 Q k q0 x1 G) : zW E l mX11_latestWaits d b G0 Q k 0 [some (.ref q0), some (.int x1), none, none, none, none] [] G := by
  unfold wp_X11_latestWaits_0 at h
  refine z_aload_n (pc' := 1) dX11_latestWaits_0 rfl rfl ?_
  obtain ⟨h1, h⟩ := h
  refine z_getR (ci := 12) (kf := 8) (pc' := 4) dX11_latestWaits_1 kX11_62 (Or.inl rfl) (by decide) (by decide) rfl rfl h1 ?_
  obtain ⟨h1, h⟩ := h
  refine z_getR (ci := 7) (kf := 3) (pc' := 7) dX11_latestWaits_4 kX11_223 (Or.inl rfl) (by decide) (by decide) rfl rfl h1 ?_
  obtain ⟨h1, h⟩ := h
  obtain ⟨d1, b1, Qz, hm, hdd, hb, hkx, hk⟩ := h
  refine z_callV (Y := mJx4a65c_size_8abf5) (n := 0) (as := []) (st := []) (pc' := 10) (ci := 0) (q := (zrv G (zrv G q0 8) 3)) hm dX11_latestWaits_7 kX11_97 vJx4a65c_size_8abf5 rfl rfl (by decide) rfl h1 hdd hb (Nat.le_of_ble_eq_true rfl) (fun r G2 hz => ?_) hkx
  obtain ⟨y1, rfl, h⟩ := hk r G2 hz
  obtain ⟨h1, h2, h3, t4, h4, h5, h6, h⟩ := h
  obtain ⟨q_5, hq⟩ : ∃ z, z = zp t4 (zcn G2 t4) := ⟨_, rfl⟩
  obtain ⟨G6, hG⟩ : ∃ z, z = znw G2 t4 y1.toNatClampNeg := ⟨_, rfl⟩
  have h := h _ hq _ hG _ rfl
  refine z_newa (t := t4) (kd := 0) (pc' := 12) dX11_latestWaits_10 rfl (by decide) a_int rfl h4 h5 h6 h1 rfl h2 h3 ?_
  refine z_mk hq hG ?_
  refine z_astore_n (pc' := 13) dX11_latestWaits_12 (by decide) rfl ?_
  refine z_iconst (x := 0) (pc' := 14) dX11_latestWaits_13 (by decide) rfl ?_
  refine z_istore_n (pc' := 15) dX11_latestWaits_14 (by decide) rfl ?_
  refine z_iconst (x := 0) (pc' := 16) dX11_latestWaits_15 (by decide) rfl ?_
  refine z_istore (pc' := 18) dX11_latestWaits_16 (by decide) rfl ?_
  exact z_dr (ls' := [some (.ref q0), some (.int x1), some (.ref q_5), some (.int 0), some (.int 0), none]) ⟨rfl, rfl, rfl, rfl, rfl, trivial⟩ h
def wp_X11_latestWaits_18 (E : ZE) (l : Launch) (d b : Nat) (G0 : ZG) (Q : ZQ) (k : Nat) (q0 : Nat) (x1 : Int32) (q2 : Nat) (x3 : Int32) (x4 : Int32) (G : ZG) : Prop :=
  (zar G q2 0 ∨ zrd G q2 .int) ∧
  (((Int32.ofNat (zln G q2)) ≤ x4 →
    zW E l mX11_latestWaits d b G0 Q k 100 [none, none, some (.ref q2), some (.int x3), none, none] [] G) ∧
  (¬ ((Int32.ofNat (zln G q2)) ≤ x4) →
    (zar G q2 0 ∨ zrd G q2 .int) ∧
    (((Int32.ofNat (zln G q2)) ≤ x3 →
      zW E l mX11_latestWaits d b G0 Q k 100 [none, none, some (.ref q2), some (.int x3), none, none] [] G) ∧
    (¬ ((Int32.ofNat (zln G q2)) ≤ x3) →
      zob G q0 12 ∧
      zob G (zrv G q0 8) 7 ∧
      zob G (zrv G (zrv G q0 8) 3) 0 ∧
      xcR E l mJx4a65c_get_915e3 d [.ref (zrv G (zrv G q0 8) 3), .int x4] G k (fun X G9 => Q (.inr X) G9) (fun y1 G2 k3 =>
      zob G2 y1 1 ∧
      zob G2 y1 1 ∧
      ((¬ (ziv G2 y1 2) = x1 →
        zW E l mX11_latestWaits d b G0 Q k3 18 [some (.ref q0), some (.int x1), some (.ref q2), some (.int x3), some (.int (x4 + 1)), none] [] G2) ∧
      (¬ (¬ (ziv G2 y1 2) = x1) →
        zob G2 y1 1 ∧
        ((¬ (ziv G2 y1 7) = 7 →
          zW E l mX11_latestWaits d b G0 Q k3 18 [some (.ref q0), some (.int x1), some (.ref q2), some (.int x3), some (.int (x4 + 1)), none] [] G2) ∧
        (¬ (¬ (ziv G2 y1 7) = 7) →
          zob G2 y1 1 ∧
          zob G2 y1 1 ∧
          xcI E l mX0_waitedDays d [.ref y1] G2 k3 (fun X G9 => Q (.inr X) G9) (fun y4 G5 k6 =>
          zar G5 q2 0 ∧ vp_in x3 (zln G5 q2) ∧
          ∀ G7, G7 = zsi G5 q2 x3.toNatClampNeg (((((ziv G2 y1 12) * 120) + x4) * 1024) + y4) →
          zW E l mX11_latestWaits d b G0 Q k6 18 [some (.ref q0), some (.int x1), some (.ref q2), some (.int (x3 + 1)), some (.int (x4 + 1)), none] [] G7))))))))))
theorem wpt_X11_latestWaits_18 {E : ZE} {l : Launch} {d b : Nat} {G0 : ZG} {Q : ZQ} {k : Nat} {q0 : Nat} {x1 : Int32} {q2 : Nat} {x3 : Int32} {x4 : Int32} {G : ZG} (h : wp_X11_latestWaits_18 E l d b G0 Q k q0 x1 q2 x3 x4 G) : zW E l mX11_latestWaits d b G0 Q k 18 [some (.ref q0), some (.int x1), some (.ref q2), some (.int x3), some (.int x4), none] [] G := by
  unfold wp_X11_latestWaits_18 at h
  refine z_iload (pc' := 20) dX11_latestWaits_18 rfl rfl ?_
  refine z_aload_n (pc' := 21) dX11_latestWaits_20 rfl rfl ?_
  obtain ⟨h1, h⟩ := h
  refine z_alen (pc' := 22) dX11_latestWaits_21 rfl (h1.imp (fun h => ⟨0, by decide, h⟩) (fun h => ⟨_, h⟩)) rfl ?_
  refine z_icmp_ge (pt := 100) (pc' := 25) dX11_latestWaits_22 (by decide) rfl (fun hc => ?_) (fun hc => ?_)
  · have h := h.1 hc
    exact z_dr (ls' := [none, none, some (.ref q2), some (.int x3), none, none]) ⟨rfl, rfl, trivial⟩ h
  · have h := h.2 hc
    refine z_iload_n (pc' := 26) dX11_latestWaits_25 rfl rfl ?_
    refine z_aload_n (pc' := 27) dX11_latestWaits_26 rfl rfl ?_
    obtain ⟨h1, h⟩ := h
    refine z_alen (pc' := 28) dX11_latestWaits_27 rfl (h1.imp (fun h => ⟨0, by decide, h⟩) (fun h => ⟨_, h⟩)) rfl ?_
    refine z_icmp_ge (pt := 100) (pc' := 31) dX11_latestWaits_28 (by decide) rfl (fun hc => ?_) (fun hc => ?_)
    · have h := h.1 hc
      exact z_dr (ls' := [none, none, some (.ref q2), some (.int x3), none, none]) ⟨rfl, rfl, trivial⟩ h
    · have h := h.2 hc
      refine z_aload_n (pc' := 32) dX11_latestWaits_31 rfl rfl ?_
      obtain ⟨h1, h⟩ := h
      refine z_getR (ci := 12) (kf := 8) (pc' := 35) dX11_latestWaits_32 kX11_62 (Or.inl rfl) (by decide) (by decide) rfl rfl h1 ?_
      obtain ⟨h1, h⟩ := h
      refine z_getR (ci := 7) (kf := 3) (pc' := 38) dX11_latestWaits_35 kX11_223 (Or.inl rfl) (by decide) (by decide) rfl rfl h1 ?_
      refine z_iload (pc' := 40) dX11_latestWaits_38 rfl rfl ?_
      obtain ⟨h1, h⟩ := h
      obtain ⟨d1, b1, Qz, hm, hdd, hb, hkx, hk⟩ := h
      refine z_callV (Y := mJx4a65c_get_915e3) (n := 1) (as := [.int x4]) (st := []) (pc' := 43) (ci := 0) (q := (zrv G (zrv G q0 8) 3)) hm dX11_latestWaits_40 kX11_111 vJx4a65c_get_915e3 rfl rfl (by decide) rfl h1 hdd hb (Nat.le_of_ble_eq_true rfl) (fun r G2 hz => ?_) hkx
      obtain ⟨y1, rfl, h⟩ := hk r G2 hz
      obtain ⟨h1, h⟩ := h
      refine z_castO (ci := 1) (pc' := 46) dX11_latestWaits_43 kX11_218 (by decide) rfl h1 ?_
      refine z_astore (pc' := 48) dX11_latestWaits_46 (by decide) rfl ?_
      refine z_aload (pc' := 50) dX11_latestWaits_48 rfl rfl ?_
      obtain ⟨h1, h⟩ := h
      refine z_getI (ci := 1) (kf := 2) (pc' := 53) dX11_latestWaits_50 kX11_266 (Or.inl rfl) (by decide) (by decide) rfl rfl h1 ?_
      refine z_iload_n (pc' := 54) dX11_latestWaits_53 rfl rfl ?_
      refine z_icmp_ne (pt := 94) (pc' := 57) dX11_latestWaits_54 (by decide) rfl (fun hc => ?_) (fun hc => ?_)
      · have h := h.1 hc
        refine z_iinc (y := x4 + 1) (pc' := 97) dX11_latestWaits_94 rfl (zinc_1 _) (by decide) rfl ?_
        refine z_goto (pc' := 18) dX11_latestWaits_97 (by decide) ?_
        exact z_dr (ls' := [some (.ref q0), some (.int x1), some (.ref q2), some (.int x3), some (.int (x4 + 1)), none]) ⟨rfl, rfl, rfl, rfl, rfl, trivial⟩ h
      · have h := h.2 hc
        refine z_aload (pc' := 59) dX11_latestWaits_57 rfl rfl ?_
        obtain ⟨h1, h⟩ := h
        refine z_getI (ci := 1) (kf := 7) (pc' := 62) dX11_latestWaits_59 kX11_240 (Or.inl rfl) (by decide) (by decide) rfl rfl h1 ?_
        refine z_bipush (x := 7) (pc' := 64) dX11_latestWaits_62 (by decide) rfl ?_
        refine z_icmp_ne (pt := 94) (pc' := 67) dX11_latestWaits_64 (by decide) rfl (fun hc => ?_) (fun hc => ?_)
        · have h := h.1 hc
          refine z_iinc (y := x4 + 1) (pc' := 97) dX11_latestWaits_94 rfl (zinc_1 _) (by decide) rfl ?_
          refine z_goto (pc' := 18) dX11_latestWaits_97 (by decide) ?_
          exact z_dr (ls' := [some (.ref q0), some (.int x1), some (.ref q2), some (.int x3), some (.int (x4 + 1)), none]) ⟨rfl, rfl, rfl, rfl, rfl, trivial⟩ h
        · have h := h.2 hc
          refine z_aload_n (pc' := 68) dX11_latestWaits_67 rfl rfl ?_
          refine z_iload_n (pc' := 69) dX11_latestWaits_68 rfl rfl ?_
          refine z_aload (pc' := 71) dX11_latestWaits_69 rfl rfl ?_
          obtain ⟨h1, h⟩ := h
          refine z_getI (ci := 1) (kf := 12) (pc' := 74) dX11_latestWaits_71 kX11_285 (Or.inl rfl) (by decide) (by decide) rfl rfl h1 ?_
          refine z_bipush (x := 120) (pc' := 76) dX11_latestWaits_74 (by decide) rfl ?_
          refine z_imul (pc' := 77) dX11_latestWaits_76 rfl rfl ?_
          refine z_iload (pc' := 79) dX11_latestWaits_77 rfl rfl ?_
          refine z_iadd (pc' := 80) dX11_latestWaits_79 rfl rfl ?_
          refine z_sipush (x := 1024) (pc' := 83) dX11_latestWaits_80 (by decide) rfl ?_
          refine z_imul (pc' := 84) dX11_latestWaits_83 rfl rfl ?_
          refine z_aload (pc' := 86) dX11_latestWaits_84 rfl rfl ?_
          obtain ⟨h1, h⟩ := h
          obtain ⟨d1, b1, Qz, hm, hdd, hb, hkx, hk⟩ := h
          refine z_callV (Y := mX0_waitedDays) (n := 0) (as := []) (st := [.int ((((ziv G2 y1 12) * 120) + x4) * 1024), .int x3, .ref q2]) (pc' := 89) (ci := 1) (q := y1) hm dX11_latestWaits_86 kX11_384 vX0_waitedDays rfl rfl (by decide) rfl h1 hdd hb (Nat.le_of_ble_eq_true rfl) (fun r G5 hz => ?_) hkx
          obtain ⟨y4, rfl, h⟩ := hk r G5 hz
          refine z_iadd (pc' := 90) dX11_latestWaits_89 rfl rfl ?_
          obtain ⟨h1, h2, h⟩ := h
          obtain ⟨G7, hG⟩ : ∃ z, z = zsi G5 q2 x3.toNatClampNeg (((((ziv G2 y1 12) * 120) + x4) * 1024) + y4) := ⟨_, rfl⟩
          have h := h _ hG
          refine z_iast (pc' := 91) dX11_latestWaits_90 rfl h1 h2  ?_
          refine z_st hG ?_
          refine z_iinc (y := x3 + 1) (pc' := 94) dX11_latestWaits_91 rfl (zinc_1 _) (by decide) rfl ?_
          refine z_iinc (y := x4 + 1) (pc' := 97) dX11_latestWaits_94 rfl (zinc_1 _) (by decide) rfl ?_
          refine z_goto (pc' := 18) dX11_latestWaits_97 (by decide) ?_
          exact z_dr (ls' := [some (.ref q0), some (.int x1), some (.ref q2), some (.int (x3 + 1)), some (.int (x4 + 1)), none]) ⟨rfl, rfl, rfl, rfl, rfl, trivial⟩ h
def wp_X11_latestWaits_100 (E : ZE) (l : Launch) (d b : Nat) (G0 : ZG) (Q : ZQ) (k : Nat) (q2 : Nat) (x3 : Int32) (G : ZG) : Prop :=
  xcV E l mX11_sort d [.ref q2, .int x3] G k (fun X G9 => Q (.inr X) G9) (fun G1 k2 =>
  xcI E l mJ9_max_7cf53 d [.int 0, .int (x3 - 20)] G1 k2 (fun X G9 => Q (.inr X) G9) (fun y3 G4 k5 =>
  xcR E l mJ7_copyOfRange_feecc d [.ref q2, .int y3, .int x3] G4 k5 (fun X G9 => Q (.inr X) G9) (fun y6 G7 k8 =>
  zW E l mX11_latestWaits d b G0 Q k8 123 [none, none, none, none, some (.ref y6), some (.int 0)] [] G7)))
theorem wpt_X11_latestWaits_100 {E : ZE} {l : Launch} {d b : Nat} {G0 : ZG} {Q : ZQ} {k : Nat} {q2 : Nat} {x3 : Int32} {G : ZG} (h : wp_X11_latestWaits_100 E l d b G0 Q k q2 x3 G) : zW E l mX11_latestWaits d b G0 Q k 100 [none, none, some (.ref q2), some (.int x3), none, none] [] G := by
  unfold wp_X11_latestWaits_100 at h
  refine z_aload_n (pc' := 101) dX11_latestWaits_100 rfl rfl ?_
  refine z_iload_n (pc' := 102) dX11_latestWaits_101 rfl rfl ?_
  obtain ⟨d1, b1, Qz, hm, hdd, hb, hkx, hk⟩ := h
  refine z_callS (Y := mX11_sort) (n := 2) (as := [.ref q2, .int x3]) (st := []) (pc' := 105) hm dX11_latestWaits_102 kX11_387 sX11_sort rfl rfl hdd hb (Nat.le_of_ble_eq_true rfl) (fun r G1 hz => ?_) hkx
  obtain ⟨rfl, h⟩ := hk r G1 hz
  refine z_aload_n (pc' := 106) dX11_latestWaits_105 rfl rfl ?_
  refine z_iconst (x := 0) (pc' := 107) dX11_latestWaits_106 (by decide) rfl ?_
  refine z_iload_n (pc' := 108) dX11_latestWaits_107 rfl rfl ?_
  refine z_bipush (x := 20) (pc' := 110) dX11_latestWaits_108 (by decide) rfl ?_
  refine z_isub (pc' := 111) dX11_latestWaits_110 rfl rfl ?_
  obtain ⟨d1, b1, Qz, hm, hdd, hb, hkx, hk⟩ := h
  refine z_callS (Y := mJ9_max_7cf53) (n := 2) (as := [.int 0, .int (x3 - 20)]) (st := [.ref q2]) (pc' := 114) hm dX11_latestWaits_111 kX11_391 sJ9_max_7cf53 rfl rfl hdd hb (Nat.le_of_ble_eq_true rfl) (fun r G4 hz => ?_) hkx
  obtain ⟨y3, rfl, h⟩ := hk r G4 hz
  refine z_iload_n (pc' := 115) dX11_latestWaits_114 rfl rfl ?_
  obtain ⟨d1, b1, Qz, hm, hdd, hb, hkx, hk⟩ := h
  refine z_callS (Y := mJ7_copyOfRange_feecc) (n := 3) (as := [.ref q2, .int y3, .int x3]) (st := []) (pc' := 118) hm dX11_latestWaits_115 kX11_396 sJ7_copyOfRange_feecc rfl rfl hdd hb (Nat.le_of_ble_eq_true rfl) (fun r G7 hz => ?_) hkx
  obtain ⟨y6, rfl, h⟩ := hk r G7 hz
  refine z_astore (pc' := 120) dX11_latestWaits_118 (by decide) rfl ?_
  refine z_iconst (x := 0) (pc' := 121) dX11_latestWaits_120 (by decide) rfl ?_
  refine z_istore (pc' := 123) dX11_latestWaits_121 (by decide) rfl ?_
  exact z_dr (ls' := [none, none, none, none, some (.ref y6), some (.int 0)]) ⟨rfl, rfl, trivial⟩ h
def wp_X11_latestWaits_123 (E : ZE) (l : Launch) (d b : Nat) (G0 : ZG) (Q : ZQ) (k : Nat) (q4 : Nat) (x5 : Int32) (G : ZG) : Prop :=
  (zar G q4 0 ∨ zrd G q4 .int) ∧
  (((Int32.ofNat (zln G q4)) ≤ x5 →
    (zar G q4 0 ∨ zrd G q4 .int) ∧
    xcV E l mX11_sort d [.ref q4, .int (Int32.ofNat (zln G q4))] G k (fun X G9 => Q (.inr X) G9) (fun G1 k2 =>
    Q (.inl (some (.ref q4))) G1)) ∧
  (¬ ((Int32.ofNat (zln G q4)) ≤ x5) →
    (zar G q4 0 ∨ zrd G q4 .int) ∧ vp_in x5 (zln G q4) ∧
    zar G q4 0 ∧ vp_in x5 (zln G q4) ∧
    ∀ G3, G3 = zsi G q4 x5.toNatClampNeg ((ziv G q4 x5.toNatClampNeg) - (ziv G q4 x5.toNatClampNeg) / 1024 * 1024) →
    zW E l mX11_latestWaits d b G0 Q k 123 [none, none, none, none, some (.ref q4), some (.int (x5 + 1))] [] G3))
theorem wpt_X11_latestWaits_123 {E : ZE} {l : Launch} {d b : Nat} {G0 : ZG} {Q : ZQ} {k : Nat} {q4 : Nat} {x5 : Int32} {G : ZG} (h : wp_X11_latestWaits_123 E l d b G0 Q k q4 x5 G) : zW E l mX11_latestWaits d b G0 Q k 123 [none, none, none, none, some (.ref q4), some (.int x5)] [] G := by
  unfold wp_X11_latestWaits_123 at h
  refine z_iload (pc' := 125) dX11_latestWaits_123 rfl rfl ?_
  refine z_aload (pc' := 127) dX11_latestWaits_125 rfl rfl ?_
  obtain ⟨h1, h⟩ := h
  refine z_alen (pc' := 128) dX11_latestWaits_127 rfl (h1.imp (fun h => ⟨0, by decide, h⟩) (fun h => ⟨_, h⟩)) rfl ?_
  refine z_icmp_ge (pt := 148) (pc' := 131) dX11_latestWaits_128 (by decide) rfl (fun hc => ?_) (fun hc => ?_)
  · have h := h.1 hc
    refine z_aload (pc' := 150) dX11_latestWaits_148 rfl rfl ?_
    refine z_aload (pc' := 152) dX11_latestWaits_150 rfl rfl ?_
    obtain ⟨h1, h⟩ := h
    refine z_alen (pc' := 153) dX11_latestWaits_152 rfl (h1.imp (fun h => ⟨0, by decide, h⟩) (fun h => ⟨_, h⟩)) rfl ?_
    obtain ⟨d1, b1, Qz, hm, hdd, hb, hkx, hk⟩ := h
    refine z_callS (Y := mX11_sort) (n := 2) (as := [.ref q4, .int (Int32.ofNat (zln G q4))]) (st := []) (pc' := 156) hm dX11_latestWaits_153 kX11_387 sX11_sort rfl rfl hdd hb (Nat.le_of_ble_eq_true rfl) (fun r G1 hz => ?_) hkx
    obtain ⟨rfl, h⟩ := hk r G1 hz
    refine z_aload (pc' := 158) dX11_latestWaits_156 rfl rfl ?_
    exact z_aret dX11_latestWaits_158 rfl (Or.inr ⟨_, rfl⟩) h
  · have h := h.2 hc
    refine z_aload (pc' := 133) dX11_latestWaits_131 rfl rfl ?_
    refine z_iload (pc' := 135) dX11_latestWaits_133 rfl rfl ?_
    refine z_dup2 (pc' := 136) dX11_latestWaits_135 rfl rfl rfl ?_
    obtain ⟨h1, h2, h⟩ := h
    refine z_iald (pc' := 137) dX11_latestWaits_136 rfl h1 h2 ?_
    refine z_sipush (x := 1024) (pc' := 140) dX11_latestWaits_137 (by decide) rfl ?_
    refine z_irem (pc' := 141) dX11_latestWaits_140 (by decide) rfl rfl ?_
    obtain ⟨h1, h2, h⟩ := h
    obtain ⟨G3, hG⟩ : ∃ z, z = zsi G q4 x5.toNatClampNeg ((ziv G q4 x5.toNatClampNeg) - (ziv G q4 x5.toNatClampNeg) / 1024 * 1024) := ⟨_, rfl⟩
    have h := h _ hG
    refine z_iast (pc' := 142) dX11_latestWaits_141 rfl h1 h2  ?_
    refine z_st hG ?_
    refine z_iinc (y := x5 + 1) (pc' := 145) dX11_latestWaits_142 rfl (zinc_1 _) (by decide) rfl ?_
    refine z_goto (pc' := 123) dX11_latestWaits_145 (by decide) ?_
    exact z_dr (ls' := [none, none, none, none, some (.ref q4), some (.int (x5 + 1))]) ⟨rfl, rfl, trivial⟩ h
def wp_X11_law_0 (E : ZE) (l : Launch) (d b : Nat) (G0 : ZG) (Q : ZQ) (k : Nat) (q0 : Nat) (x1 : Int32) (G : ZG) : Prop :=
  zob G q0 12 ∧
  xcR E l mX11_useTapeUp d [.ref q0] G k (fun X G9 => Q (.inr X) G9) (fun y1 G2 k3 =>
  zob G2 q0 12 ∧
  zob G2 (zrv G2 q0 8) 7 ∧
  ((x1 < (ziv G2 (zrv G2 q0 8) 6) →
    zW E l mX11_law d b G0 Q k3 28 [some (.ref q0), some (.int x1), some (.ref y1), none] [.int 0] G2) ∧
  (¬ (x1 < (ziv G2 (zrv G2 q0 8) 6)) →
    ((1000 < x1 →
      zW E l mX11_law d b G0 Q k3 28 [some (.ref q0), some (.int x1), some (.ref y1), none] [.int 0] G2) ∧
    (¬ (1000 < x1) →
      zW E l mX11_law d b G0 Q k3 28 [some (.ref q0), some (.int x1), some (.ref y1), none] [.int 1] G2)))))
theorem wpt_X11_law_0 {E : ZE} {l : Launch} {d b : Nat} {G0 : ZG} {Q : ZQ} {k : Nat} {q0 : Nat} {x1 : Int32} {G : ZG} (htr : l.stackTraces = false) (h : wp_X11_law_0 E l d b G0 Q k q0 x1 G) : zW E l mX11_law d b G0 Q k 0 [some (.ref q0), some (.int x1), none, none] [] G := by
  unfold wp_X11_law_0 at h
  refine z_aload_n (pc' := 1) dX11_law_0 rfl rfl ?_
  obtain ⟨h1, h⟩ := h
  obtain ⟨d1, b1, Qz, hm, hdd, hb, hkx, hk⟩ := h
  refine z_callV (Y := mX11_useTapeUp) (n := 0) (as := []) (st := []) (pc' := 4) (ci := 12) (q := q0) hm dX11_law_1 kX11_79 vX11_useTapeUp rfl rfl (by decide) rfl h1 hdd hb (Nat.le_of_ble_eq_true rfl) (fun r G2 hz => ?_) hkx
  obtain ⟨y1, rfl, h⟩ := hk r G2 hz
  refine z_astore_n (pc' := 5) dX11_law_4 (by decide) rfl ?_
  refine z_iload_n (pc' := 6) dX11_law_5 rfl rfl ?_
  refine z_aload_n (pc' := 7) dX11_law_6 rfl rfl ?_
  obtain ⟨h1, h⟩ := h
  refine z_getR (ci := 12) (kf := 8) (pc' := 10) dX11_law_7 kX11_62 (Or.inl rfl) (by decide) (by decide) rfl rfl h1 ?_
  obtain ⟨h1, h⟩ := h
  refine z_getI (ci := 7) (kf := 6) (pc' := 13) dX11_law_10 kX11_83 (Or.inl rfl) (by decide) (by decide) rfl rfl h1 ?_
  refine z_icmp_lt (pt := 27) (pc' := 16) dX11_law_13 (by decide) rfl (fun hc => ?_) (fun hc => ?_)
  · have h := h.1 hc
    refine z_iconst (x := 0) (pc' := 28) dX11_law_27 (by decide) rfl ?_
    exact z_dr (ls' := [some (.ref q0), some (.int x1), some (.ref y1), none]) ⟨rfl, rfl, rfl, trivial⟩ h
  · have h := h.2 hc
    refine z_iload_n (pc' := 17) dX11_law_16 rfl rfl ?_
    refine z_sipush (x := 1000) (pc' := 20) dX11_law_17 (by decide) rfl ?_
    refine z_icmp_gt (pt := 27) (pc' := 23) dX11_law_20 (by decide) rfl (fun hc => ?_) (fun hc => ?_)
    · have h := h.1 hc
      refine z_iconst (x := 0) (pc' := 28) dX11_law_27 (by decide) rfl ?_
      exact z_dr (ls' := [some (.ref q0), some (.int x1), some (.ref y1), none]) ⟨rfl, rfl, rfl, trivial⟩ h
    · have h := h.2 hc
      refine z_iconst (x := 1) (pc' := 24) dX11_law_23 (by decide) rfl ?_
      refine z_goto (pc' := 28) dX11_law_24 (by decide) ?_
      exact z_dr (ls' := [some (.ref q0), some (.int x1), some (.ref y1), none]) ⟨rfl, rfl, rfl, trivial⟩ h
def wp_X11_law_28 (E : ZE) (l : Launch) (d b : Nat) (G0 : ZG) (Q : ZQ) (k : Nat) (q0 : Nat) (x1 : Int32) (q2 : Nat) (s0 : Int32) (G : ZG) : Prop :=
  xcV E l mX11_demand d [.int s0] G k (fun X G9 => Q (.inr X) G9) (fun G1 k2 =>
  10 ≤ k2 ∧ ∃ t3, t3 ≠ 0 ∧ t3 < 448 ∧ t3 / 32 = 4 ∧
  ∀ q_4, q_4 = zp t3 (zcn G1 t3) → ∀ G5, G5 = znw G1 t3 0 → ∀ k6, k6 = k2 - 10 →
  zal G5 q_4 ∧
  xcV E l mX3_init d [.ref q_4, .int x1, .ref q2] G5 k6 (fun X G9 => Q (.inr X) G9) (fun G7 k8 =>
  ¬ (9 : Int32) < 0 ∧ (9 : Int32).toNatClampNeg ≤ 67108864 ∧ (9 : Int32).toNatClampNeg + 1 ≤ k8 ∧ ∃ t9, 1024 ≤ t9 ∧ t9 < 3584 ∧ (t9 - 1024) / 512 = 0 ∧
  ∀ q_10, q_10 = zp t9 (zcn G7 t9) → ∀ G11, G11 = znw G7 t9 (9 : Int32).toNatClampNeg → ∀ k12, k12 = k8 - ((9 : Int32).toNatClampNeg + 1) →
  zob G11 q_4 4 ∧
  xcR E l mX3_verdictOn d [.ref q_4, .ref q_10] G11 k12 (fun X G9 => Q (.inr X) G9) (fun y13 G14 k15 =>
  zob G14 q_4 4 ∧
  zob G14 q0 12 ∧
  ∀ G16, G16 = zsi G14 q0 2 (ziv G14 q_4 2) →
  zob G16 q0 12 ∧
  ((¬ (ziv G16 q0 2) = (-1) →
    zW E l mX11_law d b G0 Q k15 71 [some (.ref q0), none, none, some (.ref q_4)] [.int 0] G16) ∧
  (¬ (¬ (ziv G16 q0 2) = (-1)) →
    zW E l mX11_law d b G0 Q k15 71 [some (.ref q0), none, none, some (.ref q_4)] [.int 1] G16)))))
theorem wpt_X11_law_28 {E : ZE} {l : Launch} {d b : Nat} {G0 : ZG} {Q : ZQ} {k : Nat} {q0 : Nat} {x1 : Int32} {q2 : Nat} {s0 : Int32} {G : ZG} (htr : l.stackTraces = false) (h : wp_X11_law_28 E l d b G0 Q k q0 x1 q2 s0 G) : zW E l mX11_law d b G0 Q k 28 [some (.ref q0), some (.int x1), some (.ref q2), none] [.int s0] G := by
  unfold wp_X11_law_28 at h
  obtain ⟨d1, b1, Qz, hm, hdd, hb, hkx, hk⟩ := h
  refine z_callS (Y := mX11_demand) (n := 1) (as := [.int s0]) (st := []) (pc' := 31) hm dX11_law_28 kX11_86 sX11_demand rfl rfl hdd hb (Nat.le_of_ble_eq_true rfl) (fun r G1 hz => ?_) hkx
  obtain ⟨rfl, h⟩ := hk r G1 hz
  obtain ⟨h1, t3, h2, h3, h4, h⟩ := h
  obtain ⟨q_4, hq⟩ : ∃ z, z = zp t3 (zcn G1 t3) := ⟨_, rfl⟩
  obtain ⟨G5, hG⟩ : ∃ z, z = znw G1 t3 0 := ⟨_, rfl⟩
  have h := h _ hq _ hG _ rfl
  refine z_new (ci := 4) (t := t3) (pc' := 34) dX11_law_31 kX11_27 n4_inst n4_ini (by decide) rfl h2 h3 h4 h1 (z_df (by decide)) ?_
  refine z_mk hq hG ?_
  refine z_dup (pc' := 35) dX11_law_34 rfl rfl ?_
  refine z_iload_n (pc' := 36) dX11_law_35 rfl rfl ?_
  refine z_aload_n (pc' := 37) dX11_law_36 rfl rfl ?_
  obtain ⟨h1, h⟩ := h
  obtain ⟨d1, b1, Qz, hm, hdd, hb, hkx, hk⟩ := h
  refine z_callI (Y := mX3_init) (n := 2) (as := [.int x1, .ref q2]) (st := [.ref q_4]) (pc' := 40) (q := q_4) hm dX11_law_37 kX11_29 iX3_init rfl rfl h1 hdd hb (Nat.le_of_ble_eq_true rfl) (fun r G7 hz => ?_) hkx
  obtain ⟨rfl, h⟩ := hk r G7 hz
  refine z_astore_n (pc' := 41) dX11_law_40 (by decide) rfl ?_
  refine z_aload_n (pc' := 42) dX11_law_41 rfl rfl ?_
  refine z_bipush (x := 9) (pc' := 44) dX11_law_42 (by decide) rfl ?_
  obtain ⟨h1, h2, h3, t9, h4, h5, h6, h⟩ := h
  obtain ⟨q_10, hq⟩ : ∃ z, z = zp t9 (zcn G7 t9) := ⟨_, rfl⟩
  obtain ⟨G11, hG⟩ : ∃ z, z = znw G7 t9 (9 : Int32).toNatClampNeg := ⟨_, rfl⟩
  have h := h _ hq _ hG _ rfl
  refine z_newa (t := t9) (kd := 0) (pc' := 46) dX11_law_44 rfl (by decide) a_int rfl h4 h5 h6 h1 rfl h2 h3 ?_
  refine z_mk hq hG ?_
  obtain ⟨h1, h⟩ := h
  obtain ⟨d1, b1, Qz, hm, hdd, hb, hkx, hk⟩ := h
  refine z_callV (Y := mX3_verdictOn) (n := 1) (as := [.ref q_10]) (st := []) (pc' := 49) (ci := 4) (q := q_4) hm dX11_law_46 kX11_90 vX3_verdictOn rfl rfl (by decide) rfl h1 hdd hb (Nat.le_of_ble_eq_true rfl) (fun r G14 hz => ?_) hkx
  obtain ⟨y13, rfl, h⟩ := hk r G14 hz
  refine z_pop (pc' := 50) dX11_law_49 rfl rfl ?_
  refine z_aload_n (pc' := 51) dX11_law_50 rfl rfl ?_
  refine z_aload_n (pc' := 52) dX11_law_51 rfl rfl ?_
  obtain ⟨h1, h⟩ := h
  refine z_getI (ci := 4) (kf := 2) (pc' := 55) dX11_law_52 kX11_94 (Or.inl rfl) (by decide) (by decide) rfl rfl h1 ?_
  obtain ⟨h1, h⟩ := h
  obtain ⟨G16, hG⟩ : ∃ z, z = zsi G14 q0 2 (ziv G14 q_4 2) := ⟨_, rfl⟩
  have h := h _ hG
  refine z_putI (ci := 12) (kf := 2) (pc' := 58) dX11_law_55 kX11_17 (Or.inl rfl) (by decide) (by decide) rfl (Or.inl rfl) rfl h1 (zok_int _) ?_
  refine z_st hG ?_
  refine z_aload_n (pc' := 59) dX11_law_58 rfl rfl ?_
  obtain ⟨h1, h⟩ := h
  refine z_getI (ci := 12) (kf := 2) (pc' := 62) dX11_law_59 kX11_17 (Or.inl rfl) (by decide) (by decide) rfl rfl h1 ?_
  refine z_iconst (x := (-1)) (pc' := 63) dX11_law_62 (by decide) rfl ?_
  refine z_icmp_ne (pt := 70) (pc' := 66) dX11_law_63 (by decide) rfl (fun hc => ?_) (fun hc => ?_)
  · have h := h.1 hc
    refine z_iconst (x := 0) (pc' := 71) dX11_law_70 (by decide) rfl ?_
    exact z_dr (ls' := [some (.ref q0), none, none, some (.ref q_4)]) ⟨rfl, rfl, trivial⟩ h
  · have h := h.2 hc
    refine z_iconst (x := 1) (pc' := 67) dX11_law_66 (by decide) rfl ?_
    refine z_goto (pc' := 71) dX11_law_67 (by decide) ?_
    exact z_dr (ls' := [some (.ref q0), none, none, some (.ref q_4)]) ⟨rfl, rfl, trivial⟩ h
def wp_X11_law_71 (E : ZE) (l : Launch) (d b : Nat) (G0 : ZG) (Q : ZQ) (k : Nat) (q0 : Nat) (q3 : Nat) (s0 : Int32) (G : ZG) : Prop :=
  xcV E l mX11_demand d [.int s0] G k (fun X G9 => Q (.inr X) G9) (fun G1 k2 =>
  zob G1 q0 12 ∧
  zob G1 (zrv G1 q0 3) 0 ∧
  xcI E l mJx4a65c_size_8abf5 d [.ref (zrv G1 q0 3)] G1 k2 (fun X G9 => Q (.inr X) G9) (fun y3 G4 k5 =>
  ((y3 < 12 →
    zob G4 q0 12 ∧
    zob G4 (zrv G4 q0 3) 0 ∧
    xcI E l mJx4a65c_add_9ea2d d [.ref (zrv G4 q0 3), .ref q3] G4 k5 (fun X G9 => Q (.inr X) G9) (fun y6 G7 k8 =>
    zob G7 q3 4 ∧
    Q (.inl (some (.int (ziv G7 q3 1)))) G7)) ∧
  (¬ (y3 < 12) →
    7 ≤ k5 ∧ 6 ≤ d ∧ Q (.inr "java/lang/UnsupportedOperationException") G4))))
theorem wpt_X11_law_71 {E : ZE} {l : Launch} {d b : Nat} {G0 : ZG} {Q : ZQ} {k : Nat} {q0 : Nat} {q3 : Nat} {s0 : Int32} {G : ZG} (htr : l.stackTraces = false) (h : wp_X11_law_71 E l d b G0 Q k q0 q3 s0 G) : zW E l mX11_law d b G0 Q k 71 [some (.ref q0), none, none, some (.ref q3)] [.int s0] G := by
  unfold wp_X11_law_71 at h
  obtain ⟨d1, b1, Qz, hm, hdd, hb, hkx, hk⟩ := h
  refine z_callS (Y := mX11_demand) (n := 1) (as := [.int s0]) (st := []) (pc' := 74) hm dX11_law_71 kX11_86 sX11_demand rfl rfl hdd hb (Nat.le_of_ble_eq_true rfl) (fun r G1 hz => ?_) hkx
  obtain ⟨rfl, h⟩ := hk r G1 hz
  refine z_aload_n (pc' := 75) dX11_law_74 rfl rfl ?_
  obtain ⟨h1, h⟩ := h
  refine z_getR (ci := 12) (kf := 3) (pc' := 78) dX11_law_75 kX11_23 (Or.inl rfl) (by decide) (by decide) rfl rfl h1 ?_
  obtain ⟨h1, h⟩ := h
  obtain ⟨d1, b1, Qz, hm, hdd, hb, hkx, hk⟩ := h
  refine z_callV (Y := mJx4a65c_size_8abf5) (n := 0) (as := []) (st := []) (pc' := 81) (ci := 0) (q := (zrv G1 q0 3)) hm dX11_law_78 kX11_97 vJx4a65c_size_8abf5 rfl rfl (by decide) rfl h1 hdd hb (Nat.le_of_ble_eq_true rfl) (fun r G4 hz => ?_) hkx
  obtain ⟨y3, rfl, h⟩ := hk r G4 hz
  refine z_bipush (x := 12) (pc' := 83) dX11_law_81 (by decide) rfl ?_
  refine z_icmp_lt (pt := 94) (pc' := 86) dX11_law_83 (by decide) rfl (fun hc => ?_) (fun hc => ?_)
  · have h := h.1 hc
    refine z_aload_n (pc' := 95) dX11_law_94 rfl rfl ?_
    obtain ⟨h1, h⟩ := h
    refine z_getR (ci := 12) (kf := 3) (pc' := 98) dX11_law_95 kX11_23 (Or.inl rfl) (by decide) (by decide) rfl rfl h1 ?_
    refine z_aload_n (pc' := 99) dX11_law_98 rfl rfl ?_
    obtain ⟨h1, h⟩ := h
    obtain ⟨d1, b1, Qz, hm, hdd, hb, hkx, hk⟩ := h
    refine z_callV (Y := mJx4a65c_add_9ea2d) (n := 1) (as := [.ref q3]) (st := []) (pc' := 102) (ci := 0) (q := (zrv G4 q0 3)) hm dX11_law_99 kX11_104 vJx4a65c_add_9ea2d rfl rfl (by decide) rfl h1 hdd hb (Nat.le_of_ble_eq_true rfl) (fun r G7 hz => ?_) hkx
    obtain ⟨y6, rfl, h⟩ := hk r G7 hz
    refine z_pop (pc' := 103) dX11_law_102 rfl rfl ?_
    refine z_aload_n (pc' := 104) dX11_law_103 rfl rfl ?_
    obtain ⟨h1, h⟩ := h
    refine z_getI (ci := 4) (kf := 1) (pc' := 107) dX11_law_104 kX11_108 (Or.inl rfl) (by decide) (by decide) rfl rfl h1 ?_
    exact z_iret dX11_law_107 rfl h
  · have h := h.2 hc
    exact z_throw (names := ["java/lang/RuntimeException", "java/lang/Exception"]) htr dX11_law_86 dX11_law_89 dX11_law_90 dX11_law_93 rfl (by decide) kX11_101 x_UnsupportedOperationException h.2.1 (by decide) (Nat.le_of_ble_eq_true rfl) h.1 tX11_103 h.2.2
def wp_X11_lawOfToday_0 (E : ZE) (l : Launch) (d b : Nat) (G0 : ZG) (Q : ZQ) (k : Nat) (q0 : Nat) (G : ZG) : Prop :=
  zob G q0 12 ∧
  zW E l mX11_lawOfToday d b G0 Q k 7 [some (.ref q0), some (.ref (zrv G q0 4)), some (.int 0), none] [] G
theorem wpt_X11_lawOfToday_0 {E : ZE} {l : Launch} {d b : Nat} {G0 : ZG} {Q : ZQ} {k : Nat} {q0 : Nat} {G : ZG} (h : wp_X11_lawOfToday_0 E l d b G0 Q k q0 G) : zW E l mX11_lawOfToday d b G0 Q k 0 [some (.ref q0), none, none, none] [] G := by
  unfold wp_X11_lawOfToday_0 at h
  refine z_aload_n (pc' := 1) dX11_lawOfToday_0 rfl rfl ?_
  obtain ⟨h1, h⟩ := h
  refine z_getR (ci := 12) (kf := 4) (pc' := 4) dX11_lawOfToday_1 kX11_32 (Or.inl rfl) (by decide) (by decide) rfl rfl h1 ?_
  refine z_astore_n (pc' := 5) dX11_lawOfToday_4 (by decide) rfl ?_
  refine z_iconst (x := 0) (pc' := 6) dX11_lawOfToday_5 (by decide) rfl ?_
  refine z_istore_n (pc' := 7) dX11_lawOfToday_6 (by decide) rfl ?_
  exact z_dr (ls' := [some (.ref q0), some (.ref (zrv G q0 4)), some (.int 0), none]) ⟨rfl, rfl, rfl, trivial⟩ h
def wp_X11_lawOfToday_7 (E : ZE) (l : Launch) (d b : Nat) (G0 : ZG) (Q : ZQ) (k : Nat) (q0 : Nat) (q1 : Nat) (x2 : Int32) (G : ZG) : Prop :=
  zob G q0 12 ∧
  zob G (zrv G q0 3) 0 ∧
  xcI E l mJx4a65c_size_8abf5 d [.ref (zrv G q0 3)] G k (fun X G9 => Q (.inr X) G9) (fun y1 G2 k3 =>
  ((y1 ≤ x2 →
    Q (.inl (some (.ref q1))) G2) ∧
  (¬ (y1 ≤ x2) →
    zob G2 q0 12 ∧
    zob G2 (zrv G2 q0 3) 0 ∧
    xcR E l mJx4a65c_get_915e3 d [.ref (zrv G2 q0 3), .int x2] G2 k3 (fun X G9 => Q (.inr X) G9) (fun y4 G5 k6 =>
    zob G5 y4 4 ∧
    zob G5 y4 4 ∧
    zob G5 q0 12 ∧
    zob G5 (zrv G5 q0 8) 7 ∧
    (((ziv G5 (zrv G5 q0 8) 6) < (ziv G5 y4 0) →
      zW E l mX11_lawOfToday d b G0 Q k6 7 [some (.ref q0), some (.ref q1), some (.int (x2 + 1)), none] [] G5) ∧
    (¬ ((ziv G5 (zrv G5 q0 8) 6) < (ziv G5 y4 0)) →
      zob G5 y4 4 ∧
      zob G5 q1 4 ∧
      (((ziv G5 y4 0) < (ziv G5 q1 0) →
        zW E l mX11_lawOfToday d b G0 Q k6 7 [some (.ref q0), some (.ref q1), some (.int (x2 + 1)), none] [] G5) ∧
      (¬ ((ziv G5 y4 0) < (ziv G5 q1 0)) →
        zW E l mX11_lawOfToday d b G0 Q k6 7 [some (.ref q0), some (.ref y4), some (.int (x2 + 1)), none] [] G5))))))))
theorem wpt_X11_lawOfToday_7 {E : ZE} {l : Launch} {d b : Nat} {G0 : ZG} {Q : ZQ} {k : Nat} {q0 : Nat} {q1 : Nat} {x2 : Int32} {G : ZG} (h : wp_X11_lawOfToday_7 E l d b G0 Q k q0 q1 x2 G) : zW E l mX11_lawOfToday d b G0 Q k 7 [some (.ref q0), some (.ref q1), some (.int x2), none] [] G := by
  unfold wp_X11_lawOfToday_7 at h
  refine z_iload_n (pc' := 8) dX11_lawOfToday_7 rfl rfl ?_
  refine z_aload_n (pc' := 9) dX11_lawOfToday_8 rfl rfl ?_
  obtain ⟨h1, h⟩ := h
  refine z_getR (ci := 12) (kf := 3) (pc' := 12) dX11_lawOfToday_9 kX11_23 (Or.inl rfl) (by decide) (by decide) rfl rfl h1 ?_
  obtain ⟨h1, h⟩ := h
  obtain ⟨d1, b1, Qz, hm, hdd, hb, hkx, hk⟩ := h
  refine z_callV (Y := mJx4a65c_size_8abf5) (n := 0) (as := []) (st := [.int x2]) (pc' := 15) (ci := 0) (q := (zrv G q0 3)) hm dX11_lawOfToday_12 kX11_97 vJx4a65c_size_8abf5 rfl rfl (by decide) rfl h1 hdd hb (Nat.le_of_ble_eq_true rfl) (fun r G2 hz => ?_) hkx
  obtain ⟨y1, rfl, h⟩ := hk r G2 hz
  refine z_icmp_ge (pt := 63) (pc' := 18) dX11_lawOfToday_15 (by decide) rfl (fun hc => ?_) (fun hc => ?_)
  · have h := h.1 hc
    refine z_aload_n (pc' := 64) dX11_lawOfToday_63 rfl rfl ?_
    exact z_aret dX11_lawOfToday_64 rfl (Or.inl ⟨_, rfl⟩) h
  · have h := h.2 hc
    refine z_aload_n (pc' := 19) dX11_lawOfToday_18 rfl rfl ?_
    obtain ⟨h1, h⟩ := h
    refine z_getR (ci := 12) (kf := 3) (pc' := 22) dX11_lawOfToday_19 kX11_23 (Or.inl rfl) (by decide) (by decide) rfl rfl h1 ?_
    refine z_iload_n (pc' := 23) dX11_lawOfToday_22 rfl rfl ?_
    obtain ⟨h1, h⟩ := h
    obtain ⟨d1, b1, Qz, hm, hdd, hb, hkx, hk⟩ := h
    refine z_callV (Y := mJx4a65c_get_915e3) (n := 1) (as := [.int x2]) (st := []) (pc' := 26) (ci := 0) (q := (zrv G2 q0 3)) hm dX11_lawOfToday_23 kX11_111 vJx4a65c_get_915e3 rfl rfl (by decide) rfl h1 hdd hb (Nat.le_of_ble_eq_true rfl) (fun r G5 hz => ?_) hkx
    obtain ⟨y4, rfl, h⟩ := hk r G5 hz
    obtain ⟨h1, h⟩ := h
    refine z_castO (ci := 4) (pc' := 29) dX11_lawOfToday_26 kX11_27 (by decide) rfl h1 ?_
    refine z_astore_n (pc' := 30) dX11_lawOfToday_29 (by decide) rfl ?_
    refine z_aload_n (pc' := 31) dX11_lawOfToday_30 rfl rfl ?_
    obtain ⟨h1, h⟩ := h
    refine z_getI (ci := 4) (kf := 0) (pc' := 34) dX11_lawOfToday_31 kX11_115 (Or.inl rfl) (by decide) (by decide) rfl rfl h1 ?_
    refine z_aload_n (pc' := 35) dX11_lawOfToday_34 rfl rfl ?_
    obtain ⟨h1, h⟩ := h
    refine z_getR (ci := 12) (kf := 8) (pc' := 38) dX11_lawOfToday_35 kX11_62 (Or.inl rfl) (by decide) (by decide) rfl rfl h1 ?_
    obtain ⟨h1, h⟩ := h
    refine z_getI (ci := 7) (kf := 6) (pc' := 41) dX11_lawOfToday_38 kX11_83 (Or.inl rfl) (by decide) (by decide) rfl rfl h1 ?_
    refine z_icmp_gt (pt := 57) (pc' := 44) dX11_lawOfToday_41 (by decide) rfl (fun hc => ?_) (fun hc => ?_)
    · have h := h.1 hc
      refine z_iinc (y := x2 + 1) (pc' := 60) dX11_lawOfToday_57 rfl (zinc_1 _) (by decide) rfl ?_
      refine z_goto (pc' := 7) dX11_lawOfToday_60 (by decide) ?_
      exact z_dr (ls' := [some (.ref q0), some (.ref q1), some (.int (x2 + 1)), none]) ⟨rfl, rfl, rfl, trivial⟩ h
    · have h := h.2 hc
      refine z_aload_n (pc' := 45) dX11_lawOfToday_44 rfl rfl ?_
      obtain ⟨h1, h⟩ := h
      refine z_getI (ci := 4) (kf := 0) (pc' := 48) dX11_lawOfToday_45 kX11_115 (Or.inl rfl) (by decide) (by decide) rfl rfl h1 ?_
      refine z_aload_n (pc' := 49) dX11_lawOfToday_48 rfl rfl ?_
      obtain ⟨h1, h⟩ := h
      refine z_getI (ci := 4) (kf := 0) (pc' := 52) dX11_lawOfToday_49 kX11_115 (Or.inl rfl) (by decide) (by decide) rfl rfl h1 ?_
      refine z_icmp_lt (pt := 57) (pc' := 55) dX11_lawOfToday_52 (by decide) rfl (fun hc => ?_) (fun hc => ?_)
      · have h := h.1 hc
        refine z_iinc (y := x2 + 1) (pc' := 60) dX11_lawOfToday_57 rfl (zinc_1 _) (by decide) rfl ?_
        refine z_goto (pc' := 7) dX11_lawOfToday_60 (by decide) ?_
        exact z_dr (ls' := [some (.ref q0), some (.ref q1), some (.int (x2 + 1)), none]) ⟨rfl, rfl, rfl, trivial⟩ h
      · have h := h.2 hc
        refine z_aload_n (pc' := 56) dX11_lawOfToday_55 rfl rfl ?_
        refine z_astore_n (pc' := 57) dX11_lawOfToday_56 (by decide) rfl ?_
        refine z_iinc (y := x2 + 1) (pc' := 60) dX11_lawOfToday_57 rfl (zinc_1 _) (by decide) rfl ?_
        refine z_goto (pc' := 7) dX11_lawOfToday_60 (by decide) ?_
        exact z_dr (ls' := [some (.ref q0), some (.ref y4), some (.int (x2 + 1)), none]) ⟨rfl, rfl, rfl, trivial⟩ h
def wp_X11_led_0 (E : ZE) (l : Launch) (d b : Nat) (G0 : ZG) (Q : ZQ) (k : Nat) (q0 : Nat) (x1 : Int32) (x2 : Int32) (G : ZG) : Prop :=
  zob G q0 12 ∧
  xcR E l mX11_askingAt d [.ref q0, .int x1] G k (fun X G9 => Q (.inr X) G9) (fun y1 G2 k3 =>
  ((x2 = 0 →
    zob G2 y1 1 ∧
    Q (.inl (some (.int (ziv G2 y1 7)))) G2) ∧
  ((x2 = 1 →
    zob G2 y1 1 ∧
    zob G2 (zrv G2 y1 1) 9 ∧
    Q (.inl (some (.int (ziv G2 (zrv G2 y1 1) 0)))) G2) ∧
  ((x2 = 2 →
    zob G2 y1 1 ∧
    Q (.inl (some (.int (ziv G2 y1 2)))) G2) ∧
  ((x2 = 3 →
    zob G2 y1 1 ∧
    Q (.inl (some (.int (ziv G2 y1 3)))) G2) ∧
  ((x2 = 4 →
    zob G2 y1 1 ∧
    Q (.inl (some (.int (ziv G2 y1 4)))) G2) ∧
  ((x2 = 5 →
    zob G2 y1 1 ∧
    Q (.inl (some (.int (ziv G2 y1 8)))) G2) ∧
  ((x2 = 6 →
    zob G2 y1 1 ∧
    xcI E l mX0_lackingItems d [.ref y1] G2 k3 (fun X G9 => Q (.inr X) G9) (fun y4 G5 k6 =>
    Q (.inl (some (.int y4))) G5)) ∧
  ((x2 = 7 →
    zob G2 y1 1 ∧
    zob G2 (zrv G2 y1 6) 11 ∧
    Q (.inl (some (.int (ziv G2 (zrv G2 y1 6) 1)))) G2) ∧
  ((x2 = 8 →
    zob G2 y1 1 ∧
    (((ziv G2 y1 9) = 0 →
      Q (.inl (some (.int 0))) G2) ∧
    (¬ ((ziv G2 y1 9) = 0) →
      Q (.inl (some (.int 1))) G2))) ∧
  ((x2 = 9 →
    zob G2 y1 1 ∧
    zob G2 (zrv G2 y1 6) 11 ∧
    Q (.inl (some (.int (ziv G2 (zrv G2 y1 6) 2)))) G2) ∧
  ((x2 = 10 →
    zob G2 y1 1 ∧
    zob G2 (zrv G2 y1 6) 11 ∧
    xcI E l mX10_validYears d [.ref (zrv G2 y1 6)] G2 k3 (fun X G9 => Q (.inr X) G9) (fun y7 G8 k9 =>
    Q (.inl (some (.int y7))) G8)) ∧
  ((x2 = 11 →
    zob G2 y1 1 ∧
    Q (.inl (some (.int (ziv G2 y1 10)))) G2) ∧
  ((x2 = 12 →
    zob G2 y1 1 ∧
    Q (.inl (some (.int (ziv G2 y1 11)))) G2) ∧
  ((x2 = 13 →
    zob G2 y1 1 ∧
    Q (.inl (some (.int (ziv G2 y1 12)))) G2) ∧
  ((x2 = 14 →
    zob G2 y1 1 ∧
    Q (.inl (some (.int (ziv G2 y1 13)))) G2) ∧
  ((x2 = 15 →
    zob G2 y1 1 ∧
    Q (.inl (some (.int (ziv G2 y1 14)))) G2) ∧
  (¬ x2 = 0 → ¬ x2 = 1 → ¬ x2 = 2 → ¬ x2 = 3 → ¬ x2 = 4 → ¬ x2 = 5 → ¬ x2 = 6 → ¬ x2 = 7 → ¬ x2 = 8 → ¬ x2 = 9 → ¬ x2 = 10 → ¬ x2 = 11 → ¬ x2 = 12 → ¬ x2 = 13 → ¬ x2 = 14 → ¬ x2 = 15 →
    7 ≤ k3 ∧ 6 ≤ d ∧ Q (.inr "java/util/NoSuchElementException") G2))))))))))))))))))
theorem wpt_X11_led_0 {E : ZE} {l : Launch} {d b : Nat} {G0 : ZG} {Q : ZQ} {k : Nat} {q0 : Nat} {x1 : Int32} {x2 : Int32} {G : ZG} (htr : l.stackTraces = false) (h : wp_X11_led_0 E l d b G0 Q k q0 x1 x2 G) : zW E l mX11_led d b G0 Q k 0 [some (.ref q0), some (.int x1), some (.int x2), none] [] G := by
  unfold wp_X11_led_0 at h
  refine z_aload_n (pc' := 1) dX11_led_0 rfl rfl ?_
  refine z_iload_n (pc' := 2) dX11_led_1 rfl rfl ?_
  obtain ⟨h1, h⟩ := h
  obtain ⟨d1, b1, Qz, hm, hdd, hb, hkx, hk⟩ := h
  refine z_callV (Y := mX11_askingAt) (n := 1) (as := [.int x1]) (st := []) (pc' := 5) (ci := 12) (q := q0) hm dX11_led_2 kX11_236 vX11_askingAt rfl rfl (by decide) rfl h1 hdd hb (Nat.le_of_ble_eq_true rfl) (fun r G2 hz => ?_) hkx
  obtain ⟨y1, rfl, h⟩ := hk r G2 hz
  refine z_astore_n (pc' := 6) dX11_led_5 (by decide) rfl ?_
  refine z_iload_n (pc' := 7) dX11_led_6 rfl rfl ?_
  by_cases hc0 : x2 = 0
  · have h := h.1 hc0
    refine z_tableIn (off := 77) (pt := 84) dX11_led_7 (by rw [hc0]; decide) (by rw [hc0]; decide) (by rw [hc0]; decide) (by decide) ?_
    refine z_aload_n (pc' := 85) dX11_led_84 rfl rfl ?_
    obtain ⟨h1, h⟩ := h
    refine z_getI (ci := 1) (kf := 7) (pc' := 88) dX11_led_85 kX11_240 (Or.inl rfl) (by decide) (by decide) rfl rfl h1 ?_
    exact z_iret dX11_led_88 rfl h
  have h := h.2
  by_cases hc1 : x2 = 1
  · have h := h.1 hc1
    refine z_tableIn (off := 82) (pt := 89) dX11_led_7 (by rw [hc1]; decide) (by rw [hc1]; decide) (by rw [hc1]; decide) (by decide) ?_
    refine z_aload_n (pc' := 90) dX11_led_89 rfl rfl ?_
    obtain ⟨h1, h⟩ := h
    refine z_getR (ci := 1) (kf := 1) (pc' := 93) dX11_led_90 kX11_262 (Or.inl rfl) (by decide) (by decide) rfl rfl h1 ?_
    obtain ⟨h1, h⟩ := h
    refine z_getI (ci := 9) (kf := 0) (pc' := 96) dX11_led_93 kX11_131 (Or.inl rfl) (by decide) (by decide) rfl rfl h1 ?_
    exact z_iret dX11_led_96 rfl h
  have h := h.2
  by_cases hc2 : x2 = 2
  · have h := h.1 hc2
    refine z_tableIn (off := 90) (pt := 97) dX11_led_7 (by rw [hc2]; decide) (by rw [hc2]; decide) (by rw [hc2]; decide) (by decide) ?_
    refine z_aload_n (pc' := 98) dX11_led_97 rfl rfl ?_
    obtain ⟨h1, h⟩ := h
    refine z_getI (ci := 1) (kf := 2) (pc' := 101) dX11_led_98 kX11_266 (Or.inl rfl) (by decide) (by decide) rfl rfl h1 ?_
    exact z_iret dX11_led_101 rfl h
  have h := h.2
  by_cases hc3 : x2 = 3
  · have h := h.1 hc3
    refine z_tableIn (off := 95) (pt := 102) dX11_led_7 (by rw [hc3]; decide) (by rw [hc3]; decide) (by rw [hc3]; decide) (by decide) ?_
    refine z_aload_n (pc' := 103) dX11_led_102 rfl rfl ?_
    obtain ⟨h1, h⟩ := h
    refine z_getI (ci := 1) (kf := 3) (pc' := 106) dX11_led_103 kX11_269 (Or.inl rfl) (by decide) (by decide) rfl rfl h1 ?_
    exact z_iret dX11_led_106 rfl h
  have h := h.2
  by_cases hc4 : x2 = 4
  · have h := h.1 hc4
    refine z_tableIn (off := 100) (pt := 107) dX11_led_7 (by rw [hc4]; decide) (by rw [hc4]; decide) (by rw [hc4]; decide) (by decide) ?_
    refine z_aload_n (pc' := 108) dX11_led_107 rfl rfl ?_
    obtain ⟨h1, h⟩ := h
    refine z_getI (ci := 1) (kf := 4) (pc' := 111) dX11_led_108 kX11_272 (Or.inl rfl) (by decide) (by decide) rfl rfl h1 ?_
    exact z_iret dX11_led_111 rfl h
  have h := h.2
  by_cases hc5 : x2 = 5
  · have h := h.1 hc5
    refine z_tableIn (off := 105) (pt := 112) dX11_led_7 (by rw [hc5]; decide) (by rw [hc5]; decide) (by rw [hc5]; decide) (by decide) ?_
    refine z_aload_n (pc' := 113) dX11_led_112 rfl rfl ?_
    obtain ⟨h1, h⟩ := h
    refine z_getI (ci := 1) (kf := 8) (pc' := 116) dX11_led_113 kX11_229 (Or.inl rfl) (by decide) (by decide) rfl rfl h1 ?_
    exact z_iret dX11_led_116 rfl h
  have h := h.2
  by_cases hc6 : x2 = 6
  · have h := h.1 hc6
    refine z_tableIn (off := 110) (pt := 117) dX11_led_7 (by rw [hc6]; decide) (by rw [hc6]; decide) (by rw [hc6]; decide) (by decide) ?_
    refine z_aload_n (pc' := 118) dX11_led_117 rfl rfl ?_
    obtain ⟨h1, h⟩ := h
    obtain ⟨d1, b1, Qz, hm, hdd, hb, hkx, hk⟩ := h
    refine z_callV (Y := mX0_lackingItems) (n := 0) (as := []) (st := []) (pc' := 121) (ci := 1) (q := y1) hm dX11_led_118 kX11_246 vX0_lackingItems rfl rfl (by decide) rfl h1 hdd hb (Nat.le_of_ble_eq_true rfl) (fun r G5 hz => ?_) hkx
    obtain ⟨y4, rfl, h⟩ := hk r G5 hz
    exact z_iret dX11_led_121 rfl h
  have h := h.2
  by_cases hc7 : x2 = 7
  · have h := h.1 hc7
    refine z_tableIn (off := 115) (pt := 122) dX11_led_7 (by rw [hc7]; decide) (by rw [hc7]; decide) (by rw [hc7]; decide) (by decide) ?_
    refine z_aload_n (pc' := 123) dX11_led_122 rfl rfl ?_
    obtain ⟨h1, h⟩ := h
    refine z_getR (ci := 1) (kf := 6) (pc' := 126) dX11_led_123 kX11_275 (Or.inl rfl) (by decide) (by decide) rfl rfl h1 ?_
    obtain ⟨h1, h⟩ := h
    refine z_getI (ci := 11) (kf := 1) (pc' := 129) dX11_led_126 kX11_189 (Or.inl rfl) (by decide) (by decide) rfl rfl h1 ?_
    exact z_iret dX11_led_129 rfl h
  have h := h.2
  by_cases hc8 : x2 = 8
  · have h := h.1 hc8
    refine z_tableIn (off := 123) (pt := 130) dX11_led_7 (by rw [hc8]; decide) (by rw [hc8]; decide) (by rw [hc8]; decide) (by decide) ?_
    refine z_aload_n (pc' := 131) dX11_led_130 rfl rfl ?_
    obtain ⟨h1, h⟩ := h
    refine z_getI (ci := 1) (kf := 9) (pc' := 134) dX11_led_131 kX11_279 (Or.inl rfl) (by decide) (by decide) rfl rfl h1 ?_
    refine z_if_eq (pt := 141) (pc' := 137) dX11_led_134 (by decide) rfl (fun hc => ?_) (fun hc => ?_)
    · have h := h.1 hc
      refine z_iconst (x := 0) (pc' := 142) dX11_led_141 (by decide) rfl ?_
      exact z_iret dX11_led_142 rfl h
    · have h := h.2 hc
      refine z_iconst (x := 1) (pc' := 138) dX11_led_137 (by decide) rfl ?_
      refine z_goto (pc' := 142) dX11_led_138 (by decide) ?_
      exact z_iret dX11_led_142 rfl h
  have h := h.2
  by_cases hc9 : x2 = 9
  · have h := h.1 hc9
    refine z_tableIn (off := 136) (pt := 143) dX11_led_7 (by rw [hc9]; decide) (by rw [hc9]; decide) (by rw [hc9]; decide) (by decide) ?_
    refine z_aload_n (pc' := 144) dX11_led_143 rfl rfl ?_
    obtain ⟨h1, h⟩ := h
    refine z_getR (ci := 1) (kf := 6) (pc' := 147) dX11_led_144 kX11_275 (Or.inl rfl) (by decide) (by decide) rfl rfl h1 ?_
    obtain ⟨h1, h⟩ := h
    refine z_getI (ci := 11) (kf := 2) (pc' := 150) dX11_led_147 kX11_195 (Or.inl rfl) (by decide) (by decide) rfl rfl h1 ?_
    exact z_iret dX11_led_150 rfl h
  have h := h.2
  by_cases hc10 : x2 = 10
  · have h := h.1 hc10
    refine z_tableIn (off := 144) (pt := 151) dX11_led_7 (by rw [hc10]; decide) (by rw [hc10]; decide) (by rw [hc10]; decide) (by decide) ?_
    refine z_aload_n (pc' := 152) dX11_led_151 rfl rfl ?_
    obtain ⟨h1, h⟩ := h
    refine z_getR (ci := 1) (kf := 6) (pc' := 155) dX11_led_152 kX11_275 (Or.inl rfl) (by decide) (by decide) rfl rfl h1 ?_
    obtain ⟨h1, h⟩ := h
    obtain ⟨d1, b1, Qz, hm, hdd, hb, hkx, hk⟩ := h
    refine z_callV (Y := mX10_validYears) (n := 0) (as := []) (st := []) (pc' := 158) (ci := 11) (q := (zrv G2 y1 6)) hm dX11_led_155 kX11_192 vX10_validYears rfl rfl (by decide) rfl h1 hdd hb (Nat.le_of_ble_eq_true rfl) (fun r G8 hz => ?_) hkx
    obtain ⟨y7, rfl, h⟩ := hk r G8 hz
    exact z_iret dX11_led_158 rfl h
  have h := h.2
  by_cases hc11 : x2 = 11
  · have h := h.1 hc11
    refine z_tableIn (off := 152) (pt := 159) dX11_led_7 (by rw [hc11]; decide) (by rw [hc11]; decide) (by rw [hc11]; decide) (by decide) ?_
    refine z_aload_n (pc' := 160) dX11_led_159 rfl rfl ?_
    obtain ⟨h1, h⟩ := h
    refine z_getI (ci := 1) (kf := 10) (pc' := 163) dX11_led_160 kX11_253 (Or.inl rfl) (by decide) (by decide) rfl rfl h1 ?_
    exact z_iret dX11_led_163 rfl h
  have h := h.2
  by_cases hc12 : x2 = 12
  · have h := h.1 hc12
    refine z_tableIn (off := 157) (pt := 164) dX11_led_7 (by rw [hc12]; decide) (by rw [hc12]; decide) (by rw [hc12]; decide) (by decide) ?_
    refine z_aload_n (pc' := 165) dX11_led_164 rfl rfl ?_
    obtain ⟨h1, h⟩ := h
    refine z_getI (ci := 1) (kf := 11) (pc' := 168) dX11_led_165 kX11_282 (Or.inl rfl) (by decide) (by decide) rfl rfl h1 ?_
    exact z_iret dX11_led_168 rfl h
  have h := h.2
  by_cases hc13 : x2 = 13
  · have h := h.1 hc13
    refine z_tableIn (off := 162) (pt := 169) dX11_led_7 (by rw [hc13]; decide) (by rw [hc13]; decide) (by rw [hc13]; decide) (by decide) ?_
    refine z_aload_n (pc' := 170) dX11_led_169 rfl rfl ?_
    obtain ⟨h1, h⟩ := h
    refine z_getI (ci := 1) (kf := 12) (pc' := 173) dX11_led_170 kX11_285 (Or.inl rfl) (by decide) (by decide) rfl rfl h1 ?_
    exact z_iret dX11_led_173 rfl h
  have h := h.2
  by_cases hc14 : x2 = 14
  · have h := h.1 hc14
    refine z_tableIn (off := 167) (pt := 174) dX11_led_7 (by rw [hc14]; decide) (by rw [hc14]; decide) (by rw [hc14]; decide) (by decide) ?_
    refine z_aload_n (pc' := 175) dX11_led_174 rfl rfl ?_
    obtain ⟨h1, h⟩ := h
    refine z_getI (ci := 1) (kf := 13) (pc' := 178) dX11_led_175 kX11_259 (Or.inl rfl) (by decide) (by decide) rfl rfl h1 ?_
    exact z_iret dX11_led_178 rfl h
  have h := h.2
  by_cases hc15 : x2 = 15
  · have h := h.1 hc15
    refine z_tableIn (off := 172) (pt := 179) dX11_led_7 (by rw [hc15]; decide) (by rw [hc15]; decide) (by rw [hc15]; decide) (by decide) ?_
    refine z_aload_n (pc' := 180) dX11_led_179 rfl rfl ?_
    obtain ⟨h1, h⟩ := h
    refine z_getI (ci := 1) (kf := 14) (pc' := 183) dX11_led_180 kX11_288 (Or.inl rfl) (by decide) (by decide) rfl rfl h1 ?_
    exact z_iret dX11_led_183 rfl h
  have h := h.2
  have h := h hc0 hc1 hc2 hc3 hc4 hc5 hc6 hc7 hc8 hc9 hc10 hc11 hc12 hc13 hc14 hc15
  refine z_tableOut (pt := 184) dX11_led_7 (by have e0 := lv_neT (a := 0) hc0 (by decide); have e1 := lv_neT (a := 1) hc1 (by decide); have e2 := lv_neT (a := 2) hc2 (by decide); have e3 := lv_neT (a := 3) hc3 (by decide); have e4 := lv_neT (a := 4) hc4 (by decide); have e5 := lv_neT (a := 5) hc5 (by decide); have e6 := lv_neT (a := 6) hc6 (by decide); have e7 := lv_neT (a := 7) hc7 (by decide); have e8 := lv_neT (a := 8) hc8 (by decide); have e9 := lv_neT (a := 9) hc9 (by decide); have e10 := lv_neT (a := 10) hc10 (by decide); have e11 := lv_neT (a := 11) hc11 (by decide); have e12 := lv_neT (a := 12) hc12 (by decide); have e13 := lv_neT (a := 13) hc13 (by decide); have e14 := lv_neT (a := 14) hc14 (by decide); have e15 := lv_neT (a := 15) hc15 (by decide); omega) (by decide) ?_
  exact z_throw (names := ["java/lang/RuntimeException", "java/lang/Exception"]) htr dX11_led_184 dX11_led_187 dX11_led_188 dX11_led_191 rfl (by decide) kX11_205 x_NoSuchElementException h.2.1 (by decide) (Nat.le_of_ble_eq_true rfl) h.1 tX11_207 h.2.2
def wp_X11_lend_0 (E : ZE) (l : Launch) (d b : Nat) (G0 : ZG) (Q : ZQ) (k : Nat) (q0 : Nat) (x1 : Int32) (x2 : Int32) (x3 : Int32) (x4 : Int32) (x5 : Int32) (G : ZG) : Prop :=
  xcV E l mX11_checkDesk d [.int x1] G k (fun X G9 => Q (.inr X) G9) (fun G1 k2 =>
  ((x2 < 1 →
    zW E l mX11_lend d b G0 Q k2 20 [some (.ref q0), some (.int x1), some (.int x2), some (.int x3), some (.int x4), some (.int x5)] [.int 0] G1) ∧
  (¬ (x2 < 1) →
    ((30 < x2 →
      zW E l mX11_lend d b G0 Q k2 20 [some (.ref q0), some (.int x1), some (.int x2), some (.int x3), some (.int x4), some (.int x5)] [.int 0] G1) ∧
    (¬ (30 < x2) →
      zW E l mX11_lend d b G0 Q k2 20 [some (.ref q0), some (.int x1), some (.int x2), some (.int x3), some (.int x4), some (.int x5)] [.int 1] G1)))))
theorem wpt_X11_lend_0 {E : ZE} {l : Launch} {d b : Nat} {G0 : ZG} {Q : ZQ} {k : Nat} {q0 : Nat} {x1 : Int32} {x2 : Int32} {x3 : Int32} {x4 : Int32} {x5 : Int32} {G : ZG} (h : wp_X11_lend_0 E l d b G0 Q k q0 x1 x2 x3 x4 x5 G) : zW E l mX11_lend d b G0 Q k 0 [some (.ref q0), some (.int x1), some (.int x2), some (.int x3), some (.int x4), some (.int x5)] [] G := by
  unfold wp_X11_lend_0 at h
  refine z_iload_n (pc' := 1) dX11_lend_0 rfl rfl ?_
  obtain ⟨d1, b1, Qz, hm, hdd, hb, hkx, hk⟩ := h
  refine z_callS (Y := mX11_checkDesk) (n := 1) (as := [.int x1]) (st := []) (pc' := 4) hm dX11_lend_1 kX11_291 sX11_checkDesk rfl rfl hdd hb (Nat.le_of_ble_eq_true rfl) (fun r G1 hz => ?_) hkx
  obtain ⟨rfl, h⟩ := hk r G1 hz
  refine z_iload_n (pc' := 5) dX11_lend_4 rfl rfl ?_
  refine z_iconst (x := 1) (pc' := 6) dX11_lend_5 (by decide) rfl ?_
  refine z_icmp_lt (pt := 19) (pc' := 9) dX11_lend_6 (by decide) rfl (fun hc => ?_) (fun hc => ?_)
  · have h := h.1 hc
    refine z_iconst (x := 0) (pc' := 20) dX11_lend_19 (by decide) rfl ?_
    exact z_dr (ls' := [some (.ref q0), some (.int x1), some (.int x2), some (.int x3), some (.int x4), some (.int x5)]) ⟨rfl, rfl, rfl, rfl, rfl, rfl, trivial⟩ h
  · have h := h.2 hc
    refine z_iload_n (pc' := 10) dX11_lend_9 rfl rfl ?_
    refine z_bipush (x := 30) (pc' := 12) dX11_lend_10 (by decide) rfl ?_
    refine z_icmp_gt (pt := 19) (pc' := 15) dX11_lend_12 (by decide) rfl (fun hc => ?_) (fun hc => ?_)
    · have h := h.1 hc
      refine z_iconst (x := 0) (pc' := 20) dX11_lend_19 (by decide) rfl ?_
      exact z_dr (ls' := [some (.ref q0), some (.int x1), some (.int x2), some (.int x3), some (.int x4), some (.int x5)]) ⟨rfl, rfl, rfl, rfl, rfl, rfl, trivial⟩ h
    · have h := h.2 hc
      refine z_iconst (x := 1) (pc' := 16) dX11_lend_15 (by decide) rfl ?_
      refine z_goto (pc' := 20) dX11_lend_16 (by decide) ?_
      exact z_dr (ls' := [some (.ref q0), some (.int x1), some (.int x2), some (.int x3), some (.int x4), some (.int x5)]) ⟨rfl, rfl, rfl, rfl, rfl, rfl, trivial⟩ h
def wp_X11_lend_20 (E : ZE) (l : Launch) (d b : Nat) (G0 : ZG) (Q : ZQ) (k : Nat) (q0 : Nat) (x1 : Int32) (x2 : Int32) (x3 : Int32) (x4 : Int32) (x5 : Int32) (s0 : Int32) (G : ZG) : Prop :=
  xcV E l mX11_demand d [.int s0] G k (fun X G9 => Q (.inr X) G9) (fun G1 k2 =>
  zob G1 q0 12 ∧
  zob G1 (zrv G1 q0 8) 7 ∧
  ((x3 < (ziv G1 (zrv G1 q0 8) 6) →
    xcV E l mX11_demand d [.int 0] G1 k2 (fun X G9 => Q (.inr X) G9) (fun G3 k4 =>
    ((x5 < 0 →
      zW E l mX11_lend d b G0 Q k4 73 [some (.ref q0), some (.int x1), some (.int x2), some (.int x3), some (.int x4), some (.int x5)] [.int 0] G3) ∧
    (¬ (x5 < 0) →
      ((30 < x5 →
        zW E l mX11_lend d b G0 Q k4 73 [some (.ref q0), some (.int x1), some (.int x2), some (.int x3), some (.int x4), some (.int x5)] [.int 0] G3) ∧
      (¬ (30 < x5) →
        zW E l mX11_lend d b G0 Q k4 73 [some (.ref q0), some (.int x1), some (.int x2), some (.int x3), some (.int x4), some (.int x5)] [.int 1] G3)))))) ∧
  (¬ (x3 < (ziv G1 (zrv G1 q0 8) 6)) →
    ((x4 < x3 →
      xcV E l mX11_demand d [.int 0] G1 k2 (fun X G9 => Q (.inr X) G9) (fun G5 k6 =>
      ((x5 < 0 →
        zW E l mX11_lend d b G0 Q k6 73 [some (.ref q0), some (.int x1), some (.int x2), some (.int x3), some (.int x4), some (.int x5)] [.int 0] G5) ∧
      (¬ (x5 < 0) →
        ((30 < x5 →
          zW E l mX11_lend d b G0 Q k6 73 [some (.ref q0), some (.int x1), some (.int x2), some (.int x3), some (.int x4), some (.int x5)] [.int 0] G5) ∧
        (¬ (30 < x5) →
          zW E l mX11_lend d b G0 Q k6 73 [some (.ref q0), some (.int x1), some (.int x2), some (.int x3), some (.int x4), some (.int x5)] [.int 1] G5)))))) ∧
    (¬ (x4 < x3) →
      ((1000 < x4 →
        xcV E l mX11_demand d [.int 0] G1 k2 (fun X G9 => Q (.inr X) G9) (fun G7 k8 =>
        ((x5 < 0 →
          zW E l mX11_lend d b G0 Q k8 73 [some (.ref q0), some (.int x1), some (.int x2), some (.int x3), some (.int x4), some (.int x5)] [.int 0] G7) ∧
        (¬ (x5 < 0) →
          ((30 < x5 →
            zW E l mX11_lend d b G0 Q k8 73 [some (.ref q0), some (.int x1), some (.int x2), some (.int x3), some (.int x4), some (.int x5)] [.int 0] G7) ∧
          (¬ (30 < x5) →
            zW E l mX11_lend d b G0 Q k8 73 [some (.ref q0), some (.int x1), some (.int x2), some (.int x3), some (.int x4), some (.int x5)] [.int 1] G7)))))) ∧
      (¬ (1000 < x4) →
        xcV E l mX11_demand d [.int 1] G1 k2 (fun X G9 => Q (.inr X) G9) (fun G9 k10 =>
        ((x5 < 0 →
          zW E l mX11_lend d b G0 Q k10 73 [some (.ref q0), some (.int x1), some (.int x2), some (.int x3), some (.int x4), some (.int x5)] [.int 0] G9) ∧
        (¬ (x5 < 0) →
          ((30 < x5 →
            zW E l mX11_lend d b G0 Q k10 73 [some (.ref q0), some (.int x1), some (.int x2), some (.int x3), some (.int x4), some (.int x5)] [.int 0] G9) ∧
          (¬ (30 < x5) →
            zW E l mX11_lend d b G0 Q k10 73 [some (.ref q0), some (.int x1), some (.int x2), some (.int x3), some (.int x4), some (.int x5)] [.int 1] G9))))))))))))
theorem wpt_X11_lend_20 {E : ZE} {l : Launch} {d b : Nat} {G0 : ZG} {Q : ZQ} {k : Nat} {q0 : Nat} {x1 : Int32} {x2 : Int32} {x3 : Int32} {x4 : Int32} {x5 : Int32} {s0 : Int32} {G : ZG} (h : wp_X11_lend_20 E l d b G0 Q k q0 x1 x2 x3 x4 x5 s0 G) : zW E l mX11_lend d b G0 Q k 20 [some (.ref q0), some (.int x1), some (.int x2), some (.int x3), some (.int x4), some (.int x5)] [.int s0] G := by
  unfold wp_X11_lend_20 at h
  obtain ⟨d1, b1, Qz, hm, hdd, hb, hkx, hk⟩ := h
  refine z_callS (Y := mX11_demand) (n := 1) (as := [.int s0]) (st := []) (pc' := 23) hm dX11_lend_20 kX11_86 sX11_demand rfl rfl hdd hb (Nat.le_of_ble_eq_true rfl) (fun r G1 hz => ?_) hkx
  obtain ⟨rfl, h⟩ := hk r G1 hz
  refine z_iload_n (pc' := 24) dX11_lend_23 rfl rfl ?_
  refine z_aload_n (pc' := 25) dX11_lend_24 rfl rfl ?_
  obtain ⟨h1, h⟩ := h
  refine z_getR (ci := 12) (kf := 8) (pc' := 28) dX11_lend_25 kX11_62 (Or.inl rfl) (by decide) (by decide) rfl rfl h1 ?_
  obtain ⟨h1, h⟩ := h
  refine z_getI (ci := 7) (kf := 6) (pc' := 31) dX11_lend_28 kX11_83 (Or.inl rfl) (by decide) (by decide) rfl rfl h1 ?_
  refine z_icmp_lt (pt := 52) (pc' := 34) dX11_lend_31 (by decide) rfl (fun hc => ?_) (fun hc => ?_)
  · have h := h.1 hc
    refine z_iconst (x := 0) (pc' := 53) dX11_lend_52 (by decide) rfl ?_
    obtain ⟨d1, b1, Qz, hm, hdd, hb, hkx, hk⟩ := h
    refine z_callS (Y := mX11_demand) (n := 1) (as := [.int 0]) (st := []) (pc' := 56) hm dX11_lend_53 kX11_86 sX11_demand rfl rfl hdd hb (Nat.le_of_ble_eq_true rfl) (fun r G3 hz => ?_) hkx
    obtain ⟨rfl, h⟩ := hk r G3 hz
    refine z_iload (pc' := 58) dX11_lend_56 rfl rfl ?_
    refine z_if_lt (pt := 72) (pc' := 61) dX11_lend_58 (by decide) rfl (fun hc => ?_) (fun hc => ?_)
    · have h := h.1 hc
      refine z_iconst (x := 0) (pc' := 73) dX11_lend_72 (by decide) rfl ?_
      exact z_dr (ls' := [some (.ref q0), some (.int x1), some (.int x2), some (.int x3), some (.int x4), some (.int x5)]) ⟨rfl, rfl, rfl, rfl, rfl, rfl, trivial⟩ h
    · have h := h.2 hc
      refine z_iload (pc' := 63) dX11_lend_61 rfl rfl ?_
      refine z_bipush (x := 30) (pc' := 65) dX11_lend_63 (by decide) rfl ?_
      refine z_icmp_gt (pt := 72) (pc' := 68) dX11_lend_65 (by decide) rfl (fun hc => ?_) (fun hc => ?_)
      · have h := h.1 hc
        refine z_iconst (x := 0) (pc' := 73) dX11_lend_72 (by decide) rfl ?_
        exact z_dr (ls' := [some (.ref q0), some (.int x1), some (.int x2), some (.int x3), some (.int x4), some (.int x5)]) ⟨rfl, rfl, rfl, rfl, rfl, rfl, trivial⟩ h
      · have h := h.2 hc
        refine z_iconst (x := 1) (pc' := 69) dX11_lend_68 (by decide) rfl ?_
        refine z_goto (pc' := 73) dX11_lend_69 (by decide) ?_
        exact z_dr (ls' := [some (.ref q0), some (.int x1), some (.int x2), some (.int x3), some (.int x4), some (.int x5)]) ⟨rfl, rfl, rfl, rfl, rfl, rfl, trivial⟩ h
  · have h := h.2 hc
    refine z_iload (pc' := 36) dX11_lend_34 rfl rfl ?_
    refine z_iload_n (pc' := 37) dX11_lend_36 rfl rfl ?_
    refine z_icmp_lt (pt := 52) (pc' := 40) dX11_lend_37 (by decide) rfl (fun hc => ?_) (fun hc => ?_)
    · have h := h.1 hc
      refine z_iconst (x := 0) (pc' := 53) dX11_lend_52 (by decide) rfl ?_
      obtain ⟨d1, b1, Qz, hm, hdd, hb, hkx, hk⟩ := h
      refine z_callS (Y := mX11_demand) (n := 1) (as := [.int 0]) (st := []) (pc' := 56) hm dX11_lend_53 kX11_86 sX11_demand rfl rfl hdd hb (Nat.le_of_ble_eq_true rfl) (fun r G5 hz => ?_) hkx
      obtain ⟨rfl, h⟩ := hk r G5 hz
      refine z_iload (pc' := 58) dX11_lend_56 rfl rfl ?_
      refine z_if_lt (pt := 72) (pc' := 61) dX11_lend_58 (by decide) rfl (fun hc => ?_) (fun hc => ?_)
      · have h := h.1 hc
        refine z_iconst (x := 0) (pc' := 73) dX11_lend_72 (by decide) rfl ?_
        exact z_dr (ls' := [some (.ref q0), some (.int x1), some (.int x2), some (.int x3), some (.int x4), some (.int x5)]) ⟨rfl, rfl, rfl, rfl, rfl, rfl, trivial⟩ h
      · have h := h.2 hc
        refine z_iload (pc' := 63) dX11_lend_61 rfl rfl ?_
        refine z_bipush (x := 30) (pc' := 65) dX11_lend_63 (by decide) rfl ?_
        refine z_icmp_gt (pt := 72) (pc' := 68) dX11_lend_65 (by decide) rfl (fun hc => ?_) (fun hc => ?_)
        · have h := h.1 hc
          refine z_iconst (x := 0) (pc' := 73) dX11_lend_72 (by decide) rfl ?_
          exact z_dr (ls' := [some (.ref q0), some (.int x1), some (.int x2), some (.int x3), some (.int x4), some (.int x5)]) ⟨rfl, rfl, rfl, rfl, rfl, rfl, trivial⟩ h
        · have h := h.2 hc
          refine z_iconst (x := 1) (pc' := 69) dX11_lend_68 (by decide) rfl ?_
          refine z_goto (pc' := 73) dX11_lend_69 (by decide) ?_
          exact z_dr (ls' := [some (.ref q0), some (.int x1), some (.int x2), some (.int x3), some (.int x4), some (.int x5)]) ⟨rfl, rfl, rfl, rfl, rfl, rfl, trivial⟩ h
    · have h := h.2 hc
      refine z_iload (pc' := 42) dX11_lend_40 rfl rfl ?_
      refine z_sipush (x := 1000) (pc' := 45) dX11_lend_42 (by decide) rfl ?_
      refine z_icmp_gt (pt := 52) (pc' := 48) dX11_lend_45 (by decide) rfl (fun hc => ?_) (fun hc => ?_)
      · have h := h.1 hc
        refine z_iconst (x := 0) (pc' := 53) dX11_lend_52 (by decide) rfl ?_
        obtain ⟨d1, b1, Qz, hm, hdd, hb, hkx, hk⟩ := h
        refine z_callS (Y := mX11_demand) (n := 1) (as := [.int 0]) (st := []) (pc' := 56) hm dX11_lend_53 kX11_86 sX11_demand rfl rfl hdd hb (Nat.le_of_ble_eq_true rfl) (fun r G7 hz => ?_) hkx
        obtain ⟨rfl, h⟩ := hk r G7 hz
        refine z_iload (pc' := 58) dX11_lend_56 rfl rfl ?_
        refine z_if_lt (pt := 72) (pc' := 61) dX11_lend_58 (by decide) rfl (fun hc => ?_) (fun hc => ?_)
        · have h := h.1 hc
          refine z_iconst (x := 0) (pc' := 73) dX11_lend_72 (by decide) rfl ?_
          exact z_dr (ls' := [some (.ref q0), some (.int x1), some (.int x2), some (.int x3), some (.int x4), some (.int x5)]) ⟨rfl, rfl, rfl, rfl, rfl, rfl, trivial⟩ h
        · have h := h.2 hc
          refine z_iload (pc' := 63) dX11_lend_61 rfl rfl ?_
          refine z_bipush (x := 30) (pc' := 65) dX11_lend_63 (by decide) rfl ?_
          refine z_icmp_gt (pt := 72) (pc' := 68) dX11_lend_65 (by decide) rfl (fun hc => ?_) (fun hc => ?_)
          · have h := h.1 hc
            refine z_iconst (x := 0) (pc' := 73) dX11_lend_72 (by decide) rfl ?_
            exact z_dr (ls' := [some (.ref q0), some (.int x1), some (.int x2), some (.int x3), some (.int x4), some (.int x5)]) ⟨rfl, rfl, rfl, rfl, rfl, rfl, trivial⟩ h
          · have h := h.2 hc
            refine z_iconst (x := 1) (pc' := 69) dX11_lend_68 (by decide) rfl ?_
            refine z_goto (pc' := 73) dX11_lend_69 (by decide) ?_
            exact z_dr (ls' := [some (.ref q0), some (.int x1), some (.int x2), some (.int x3), some (.int x4), some (.int x5)]) ⟨rfl, rfl, rfl, rfl, rfl, rfl, trivial⟩ h
      · have h := h.2 hc
        refine z_iconst (x := 1) (pc' := 49) dX11_lend_48 (by decide) rfl ?_
        refine z_goto (pc' := 53) dX11_lend_49 (by decide) ?_
        obtain ⟨d1, b1, Qz, hm, hdd, hb, hkx, hk⟩ := h
        refine z_callS (Y := mX11_demand) (n := 1) (as := [.int 1]) (st := []) (pc' := 56) hm dX11_lend_53 kX11_86 sX11_demand rfl rfl hdd hb (Nat.le_of_ble_eq_true rfl) (fun r G9 hz => ?_) hkx
        obtain ⟨rfl, h⟩ := hk r G9 hz
        refine z_iload (pc' := 58) dX11_lend_56 rfl rfl ?_
        refine z_if_lt (pt := 72) (pc' := 61) dX11_lend_58 (by decide) rfl (fun hc => ?_) (fun hc => ?_)
        · have h := h.1 hc
          refine z_iconst (x := 0) (pc' := 73) dX11_lend_72 (by decide) rfl ?_
          exact z_dr (ls' := [some (.ref q0), some (.int x1), some (.int x2), some (.int x3), some (.int x4), some (.int x5)]) ⟨rfl, rfl, rfl, rfl, rfl, rfl, trivial⟩ h
        · have h := h.2 hc
          refine z_iload (pc' := 63) dX11_lend_61 rfl rfl ?_
          refine z_bipush (x := 30) (pc' := 65) dX11_lend_63 (by decide) rfl ?_
          refine z_icmp_gt (pt := 72) (pc' := 68) dX11_lend_65 (by decide) rfl (fun hc => ?_) (fun hc => ?_)
          · have h := h.1 hc
            refine z_iconst (x := 0) (pc' := 73) dX11_lend_72 (by decide) rfl ?_
            exact z_dr (ls' := [some (.ref q0), some (.int x1), some (.int x2), some (.int x3), some (.int x4), some (.int x5)]) ⟨rfl, rfl, rfl, rfl, rfl, rfl, trivial⟩ h
          · have h := h.2 hc
            refine z_iconst (x := 1) (pc' := 69) dX11_lend_68 (by decide) rfl ?_
            refine z_goto (pc' := 73) dX11_lend_69 (by decide) ?_
            exact z_dr (ls' := [some (.ref q0), some (.int x1), some (.int x2), some (.int x3), some (.int x4), some (.int x5)]) ⟨rfl, rfl, rfl, rfl, rfl, rfl, trivial⟩ h
def wp_X11_lend_73 (E : ZE) (l : Launch) (d b : Nat) (G0 : ZG) (Q : ZQ) (k : Nat) (q0 : Nat) (x1 : Int32) (x2 : Int32) (x3 : Int32) (x4 : Int32) (x5 : Int32) (s0 : Int32) (G : ZG) : Prop :=
  xcV E l mX11_demand d [.int s0] G k (fun X G9 => Q (.inr X) G9) (fun G1 k2 =>
  zob G1 q0 12 ∧
  zob G1 (zrv G1 q0 6) 3 ∧
  zob G1 (zrv G1 (zrv G1 q0 6) 0) 0 ∧
  xcI E l mJx4a65c_size_8abf5 d [.ref (zrv G1 (zrv G1 q0 6) 0)] G1 k2 (fun X G9 => Q (.inr X) G9) (fun y3 G4 k5 =>
  ((y3 < 20 →
    zob G4 q0 12 ∧
    zob G4 (zrv G4 q0 6) 3 ∧
    6 ≤ k5 ∧ ∃ t6, t6 ≠ 0 ∧ t6 < 448 ∧ t6 / 32 = 5 ∧
    ∀ q_7, q_7 = zp t6 (zcn G4 t6) → ∀ G8, G8 = znw G4 t6 0 → ∀ k9, k9 = k5 - 6 →
    zal G8 q_7 ∧
    xcV E l mX4_init d [.ref q_7, .int x1, .int x2, .int x3, .int x4, .int x5] G8 k9 (fun X G9 => Q (.inr X) G9) (fun G10 k11 =>
    zob G10 (zrv G4 (zrv G4 q0 6) 0) 0 ∧
    xcI E l mJx4a65c_add_9ea2d d [.ref (zrv G4 (zrv G4 q0 6) 0), .ref q_7] G10 k11 (fun X G9 => Q (.inr X) G9) (fun y12 G13 k14 =>
    zob G13 q0 12 ∧
    zob G13 (zrv G13 q0 6) 3 ∧
    zob G13 (zrv G13 (zrv G13 q0 6) 0) 0 ∧
    xcI E l mJx4a65c_size_8abf5 d [.ref (zrv G13 (zrv G13 q0 6) 0)] G13 k14 (fun X G9 => Q (.inr X) G9) (fun y15 G16 k17 =>
    Q (.inl (some (.int y15))) G16)))) ∧
  (¬ (y3 < 20) →
    Q (.inl (some (.int (-1)))) G4))))
theorem wpt_X11_lend_73 {E : ZE} {l : Launch} {d b : Nat} {G0 : ZG} {Q : ZQ} {k : Nat} {q0 : Nat} {x1 : Int32} {x2 : Int32} {x3 : Int32} {x4 : Int32} {x5 : Int32} {s0 : Int32} {G : ZG} (h : wp_X11_lend_73 E l d b G0 Q k q0 x1 x2 x3 x4 x5 s0 G) : zW E l mX11_lend d b G0 Q k 73 [some (.ref q0), some (.int x1), some (.int x2), some (.int x3), some (.int x4), some (.int x5)] [.int s0] G := by
  unfold wp_X11_lend_73 at h
  obtain ⟨d1, b1, Qz, hm, hdd, hb, hkx, hk⟩ := h
  refine z_callS (Y := mX11_demand) (n := 1) (as := [.int s0]) (st := []) (pc' := 76) hm dX11_lend_73 kX11_86 sX11_demand rfl rfl hdd hb (Nat.le_of_ble_eq_true rfl) (fun r G1 hz => ?_) hkx
  obtain ⟨rfl, h⟩ := hk r G1 hz
  refine z_aload_n (pc' := 77) dX11_lend_76 rfl rfl ?_
  obtain ⟨h1, h⟩ := h
  refine z_getR (ci := 12) (kf := 6) (pc' := 80) dX11_lend_77 kX11_46 (Or.inl rfl) (by decide) (by decide) rfl rfl h1 ?_
  obtain ⟨h1, h⟩ := h
  refine z_getR (ci := 3) (kf := 0) (pc' := 83) dX11_lend_80 kX11_298 (Or.inl rfl) (by decide) (by decide) rfl rfl h1 ?_
  obtain ⟨h1, h⟩ := h
  obtain ⟨d1, b1, Qz, hm, hdd, hb, hkx, hk⟩ := h
  refine z_callV (Y := mJx4a65c_size_8abf5) (n := 0) (as := []) (st := []) (pc' := 86) (ci := 0) (q := (zrv G1 (zrv G1 q0 6) 0)) hm dX11_lend_83 kX11_97 vJx4a65c_size_8abf5 rfl rfl (by decide) rfl h1 hdd hb (Nat.le_of_ble_eq_true rfl) (fun r G4 hz => ?_) hkx
  obtain ⟨y3, rfl, h⟩ := hk r G4 hz
  refine z_bipush (x := 20) (pc' := 88) dX11_lend_86 (by decide) rfl ?_
  refine z_icmp_lt (pt := 93) (pc' := 91) dX11_lend_88 (by decide) rfl (fun hc => ?_) (fun hc => ?_)
  · have h := h.1 hc
    refine z_aload_n (pc' := 94) dX11_lend_93 rfl rfl ?_
    obtain ⟨h1, h⟩ := h
    refine z_getR (ci := 12) (kf := 6) (pc' := 97) dX11_lend_94 kX11_46 (Or.inl rfl) (by decide) (by decide) rfl rfl h1 ?_
    obtain ⟨h1, h⟩ := h
    refine z_getR (ci := 3) (kf := 0) (pc' := 100) dX11_lend_97 kX11_298 (Or.inl rfl) (by decide) (by decide) rfl rfl h1 ?_
    obtain ⟨h1, t6, h2, h3, h4, h⟩ := h
    obtain ⟨q_7, hq⟩ : ∃ z, z = zp t6 (zcn G4 t6) := ⟨_, rfl⟩
    obtain ⟨G8, hG⟩ : ∃ z, z = znw G4 t6 0 := ⟨_, rfl⟩
    have h := h _ hq _ hG _ rfl
    refine z_new (ci := 5) (t := t6) (pc' := 103) dX11_lend_100 kX11_301 n5_inst n5_ini (by decide) rfl h2 h3 h4 h1 (z_df (by decide)) ?_
    refine z_mk hq hG ?_
    refine z_dup (pc' := 104) dX11_lend_103 rfl rfl ?_
    refine z_iload_n (pc' := 105) dX11_lend_104 rfl rfl ?_
    refine z_iload_n (pc' := 106) dX11_lend_105 rfl rfl ?_
    refine z_iload_n (pc' := 107) dX11_lend_106 rfl rfl ?_
    refine z_iload (pc' := 109) dX11_lend_107 rfl rfl ?_
    refine z_iload (pc' := 111) dX11_lend_109 rfl rfl ?_
    obtain ⟨h1, h⟩ := h
    obtain ⟨d1, b1, Qz, hm, hdd, hb, hkx, hk⟩ := h
    refine z_callI (Y := mX4_init) (n := 5) (as := [.int x1, .int x2, .int x3, .int x4, .int x5]) (st := [.ref q_7, .ref (zrv G4 (zrv G4 q0 6) 0)]) (pc' := 114) (q := q_7) hm dX11_lend_111 kX11_303 iX4_init rfl rfl h1 hdd hb (Nat.le_of_ble_eq_true rfl) (fun r G10 hz => ?_) hkx
    obtain ⟨rfl, h⟩ := hk r G10 hz
    obtain ⟨h1, h⟩ := h
    obtain ⟨d1, b1, Qz, hm, hdd, hb, hkx, hk⟩ := h
    refine z_callV (Y := mJx4a65c_add_9ea2d) (n := 1) (as := [.ref q_7]) (st := []) (pc' := 117) (ci := 0) (q := (zrv G4 (zrv G4 q0 6) 0)) hm dX11_lend_114 kX11_104 vJx4a65c_add_9ea2d rfl rfl (by decide) rfl h1 hdd hb (Nat.le_of_ble_eq_true rfl) (fun r G13 hz => ?_) hkx
    obtain ⟨y12, rfl, h⟩ := hk r G13 hz
    refine z_pop (pc' := 118) dX11_lend_117 rfl rfl ?_
    refine z_aload_n (pc' := 119) dX11_lend_118 rfl rfl ?_
    obtain ⟨h1, h⟩ := h
    refine z_getR (ci := 12) (kf := 6) (pc' := 122) dX11_lend_119 kX11_46 (Or.inl rfl) (by decide) (by decide) rfl rfl h1 ?_
    obtain ⟨h1, h⟩ := h
    refine z_getR (ci := 3) (kf := 0) (pc' := 125) dX11_lend_122 kX11_298 (Or.inl rfl) (by decide) (by decide) rfl rfl h1 ?_
    obtain ⟨h1, h⟩ := h
    obtain ⟨d1, b1, Qz, hm, hdd, hb, hkx, hk⟩ := h
    refine z_callV (Y := mJx4a65c_size_8abf5) (n := 0) (as := []) (st := []) (pc' := 128) (ci := 0) (q := (zrv G13 (zrv G13 q0 6) 0)) hm dX11_lend_125 kX11_97 vJx4a65c_size_8abf5 rfl rfl (by decide) rfl h1 hdd hb (Nat.le_of_ble_eq_true rfl) (fun r G16 hz => ?_) hkx
    obtain ⟨y15, rfl, h⟩ := hk r G16 hz
    exact z_iret dX11_lend_128 rfl h
  · have h := h.2 hc
    refine z_iconst (x := (-1)) (pc' := 92) dX11_lend_91 (by decide) rfl ?_
    exact z_iret dX11_lend_92 rfl h
def wp_X11_lose_0 (E : ZE) (l : Launch) (d b : Nat) (G0 : ZG) (Q : ZQ) (k : Nat) (q0 : Nat) (x1 : Int32) (G : ZG) : Prop :=
  zob G q0 12 ∧
  xcR E l mX11_askingAt d [.ref q0, .int x1] G k (fun X G9 => Q (.inr X) G9) (fun y1 G2 k3 =>
  zob G2 y1 1 ∧
  ((¬ (ziv G2 y1 7) = 6 →
    xcV E l mX11_allow d [.int 0] G2 k3 (fun X G9 => Q (.inr X) G9) (fun G4 k5 =>
    zob G4 y1 1 ∧
    ∀ G6, G6 = zsi G4 y1 7 8 →
    zob G6 q0 12 ∧
    zob G6 y1 1 ∧
    zob G6 (zrv G6 q0 8) 7 ∧
    xcV E l mX6_endBooklet d [.ref (zrv G6 q0 8), .int (ziv G6 y1 10)] G6 k5 (fun X G9 => Q (.inr X) G9) (fun G7 k8 =>
    Q (.inl none) G7))) ∧
  (¬ (¬ (ziv G2 y1 7) = 6) →
    xcV E l mX11_allow d [.int 1] G2 k3 (fun X G9 => Q (.inr X) G9) (fun G9 k10 =>
    zob G9 y1 1 ∧
    ∀ G11, G11 = zsi G9 y1 7 8 →
    zob G11 q0 12 ∧
    zob G11 y1 1 ∧
    zob G11 (zrv G11 q0 8) 7 ∧
    xcV E l mX6_endBooklet d [.ref (zrv G11 q0 8), .int (ziv G11 y1 10)] G11 k10 (fun X G9 => Q (.inr X) G9) (fun G12 k13 =>
    Q (.inl none) G12)))))
theorem wpt_X11_lose_0 {E : ZE} {l : Launch} {d b : Nat} {G0 : ZG} {Q : ZQ} {k : Nat} {q0 : Nat} {x1 : Int32} {G : ZG} (h : wp_X11_lose_0 E l d b G0 Q k q0 x1 G) : zW E l mX11_lose d b G0 Q k 0 [some (.ref q0), some (.int x1), none] [] G := by
  unfold wp_X11_lose_0 at h
  refine z_aload_n (pc' := 1) dX11_lose_0 rfl rfl ?_
  refine z_iload_n (pc' := 2) dX11_lose_1 rfl rfl ?_
  obtain ⟨h1, h⟩ := h
  obtain ⟨d1, b1, Qz, hm, hdd, hb, hkx, hk⟩ := h
  refine z_callV (Y := mX11_askingAt) (n := 1) (as := [.int x1]) (st := []) (pc' := 5) (ci := 12) (q := q0) hm dX11_lose_2 kX11_236 vX11_askingAt rfl rfl (by decide) rfl h1 hdd hb (Nat.le_of_ble_eq_true rfl) (fun r G2 hz => ?_) hkx
  obtain ⟨y1, rfl, h⟩ := hk r G2 hz
  refine z_astore_n (pc' := 6) dX11_lose_5 (by decide) rfl ?_
  refine z_aload_n (pc' := 7) dX11_lose_6 rfl rfl ?_
  obtain ⟨h1, h⟩ := h
  refine z_getI (ci := 1) (kf := 7) (pc' := 10) dX11_lose_7 kX11_240 (Or.inl rfl) (by decide) (by decide) rfl rfl h1 ?_
  refine z_bipush (x := 6) (pc' := 12) dX11_lose_10 (by decide) rfl ?_
  refine z_icmp_ne (pt := 19) (pc' := 15) dX11_lose_12 (by decide) rfl (fun hc => ?_) (fun hc => ?_)
  · have h := h.1 hc
    refine z_iconst (x := 0) (pc' := 20) dX11_lose_19 (by decide) rfl ?_
    obtain ⟨d1, b1, Qz, hm, hdd, hb, hkx, hk⟩ := h
    refine z_callS (Y := mX11_allow) (n := 1) (as := [.int 0]) (st := []) (pc' := 23) hm dX11_lose_20 kX11_243 sX11_allow rfl rfl hdd hb (Nat.le_of_ble_eq_true rfl) (fun r G4 hz => ?_) hkx
    obtain ⟨rfl, h⟩ := hk r G4 hz
    refine z_aload_n (pc' := 24) dX11_lose_23 rfl rfl ?_
    refine z_bipush (x := 8) (pc' := 26) dX11_lose_24 (by decide) rfl ?_
    obtain ⟨h1, h⟩ := h
    obtain ⟨G6, hG⟩ : ∃ z, z = zsi G4 y1 7 8 := ⟨_, rfl⟩
    have h := h _ hG
    refine z_putI (ci := 1) (kf := 7) (pc' := 29) dX11_lose_26 kX11_240 (Or.inl rfl) (by decide) (by decide) rfl (Or.inl rfl) rfl h1 (zok_int _) ?_
    refine z_st hG ?_
    refine z_aload_n (pc' := 30) dX11_lose_29 rfl rfl ?_
    obtain ⟨h1, h⟩ := h
    refine z_getR (ci := 12) (kf := 8) (pc' := 33) dX11_lose_30 kX11_62 (Or.inl rfl) (by decide) (by decide) rfl rfl h1 ?_
    refine z_aload_n (pc' := 34) dX11_lose_33 rfl rfl ?_
    obtain ⟨h1, h⟩ := h
    refine z_getI (ci := 1) (kf := 10) (pc' := 37) dX11_lose_34 kX11_253 (Or.inl rfl) (by decide) (by decide) rfl rfl h1 ?_
    obtain ⟨h1, h⟩ := h
    obtain ⟨d1, b1, Qz, hm, hdd, hb, hkx, hk⟩ := h
    refine z_callV (Y := mX6_endBooklet) (n := 1) (as := [.int (ziv G6 y1 10)]) (st := []) (pc' := 40) (ci := 7) (q := (zrv G6 q0 8)) hm dX11_lose_37 kX11_256 vX6_endBooklet rfl rfl (by decide) rfl h1 hdd hb (Nat.le_of_ble_eq_true rfl) (fun r G7 hz => ?_) hkx
    obtain ⟨rfl, h⟩ := hk r G7 hz
    exact z_vret dX11_lose_40 rfl h
  · have h := h.2 hc
    refine z_iconst (x := 1) (pc' := 16) dX11_lose_15 (by decide) rfl ?_
    refine z_goto (pc' := 20) dX11_lose_16 (by decide) ?_
    obtain ⟨d1, b1, Qz, hm, hdd, hb, hkx, hk⟩ := h
    refine z_callS (Y := mX11_allow) (n := 1) (as := [.int 1]) (st := []) (pc' := 23) hm dX11_lose_20 kX11_243 sX11_allow rfl rfl hdd hb (Nat.le_of_ble_eq_true rfl) (fun r G9 hz => ?_) hkx
    obtain ⟨rfl, h⟩ := hk r G9 hz
    refine z_aload_n (pc' := 24) dX11_lose_23 rfl rfl ?_
    refine z_bipush (x := 8) (pc' := 26) dX11_lose_24 (by decide) rfl ?_
    obtain ⟨h1, h⟩ := h
    obtain ⟨G11, hG⟩ : ∃ z, z = zsi G9 y1 7 8 := ⟨_, rfl⟩
    have h := h _ hG
    refine z_putI (ci := 1) (kf := 7) (pc' := 29) dX11_lose_26 kX11_240 (Or.inl rfl) (by decide) (by decide) rfl (Or.inl rfl) rfl h1 (zok_int _) ?_
    refine z_st hG ?_
    refine z_aload_n (pc' := 30) dX11_lose_29 rfl rfl ?_
    obtain ⟨h1, h⟩ := h
    refine z_getR (ci := 12) (kf := 8) (pc' := 33) dX11_lose_30 kX11_62 (Or.inl rfl) (by decide) (by decide) rfl rfl h1 ?_
    refine z_aload_n (pc' := 34) dX11_lose_33 rfl rfl ?_
    obtain ⟨h1, h⟩ := h
    refine z_getI (ci := 1) (kf := 10) (pc' := 37) dX11_lose_34 kX11_253 (Or.inl rfl) (by decide) (by decide) rfl rfl h1 ?_
    obtain ⟨h1, h⟩ := h
    obtain ⟨d1, b1, Qz, hm, hdd, hb, hkx, hk⟩ := h
    refine z_callV (Y := mX6_endBooklet) (n := 1) (as := [.int (ziv G11 y1 10)]) (st := []) (pc' := 40) (ci := 7) (q := (zrv G11 q0 8)) hm dX11_lose_37 kX11_256 vX6_endBooklet rfl rfl (by decide) rfl h1 hdd hb (Nat.le_of_ble_eq_true rfl) (fun r G12 hz => ?_) hkx
    obtain ⟨rfl, h⟩ := hk r G12 hz
    exact z_vret dX11_lose_40 rfl h
