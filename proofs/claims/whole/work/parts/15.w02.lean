/-! what the methods come to -/
def wp_X11_missed_0 (E : ZE) (l : Launch) (d b : Nat) (G0 : ZG) (Q : ZQ) (k : Nat) (q0 : Nat) (x1 : Int32) (x2 : Int32) (G : ZG) : Prop :=
  xcI E l mX11_isOrder d [.int x1] G k (fun X G9 => Q (.inr X) G9) (fun y1 G2 k3 =>
  ((y1 = 0 →
    xcV E l mX11_demand d [.int 0] G2 k3 (fun X G9 => Q (.inr X) G9) (fun G4 k5 =>
    zob G4 q0 12 ∧
    zob G4 q0 12 ∧
    zob G4 (zrv G4 q0 9) 7 ∧
    xcV E l mX6_copyFrom d [.ref (zrv G4 q0 9), .ref (zrv G4 q0 8)] G4 k5 (fun X G9 => Q (.inr X) G9) (fun G6 k7 =>
    zob G6 q0 12 ∧
    zob G6 (zrv G6 q0 9) 7 ∧
    ∀ G8, G8 = zsi G6 (zrv G6 q0 9) 7 x1 →
    zW E l mX11_missed d b G0 Q k7 46 [some (.ref q0), none, some (.int x2), some (.int 0), none, none, none] [] G8))) ∧
  (¬ (y1 = 0) →
    ((x2 < 0 →
      xcV E l mX11_demand d [.int 0] G2 k3 (fun X G9 => Q (.inr X) G9) (fun G9 k10 =>
      zob G9 q0 12 ∧
      zob G9 q0 12 ∧
      zob G9 (zrv G9 q0 9) 7 ∧
      xcV E l mX6_copyFrom d [.ref (zrv G9 q0 9), .ref (zrv G9 q0 8)] G9 k10 (fun X G9 => Q (.inr X) G9) (fun G11 k12 =>
      zob G11 q0 12 ∧
      zob G11 (zrv G11 q0 9) 7 ∧
      ∀ G13, G13 = zsi G11 (zrv G11 q0 9) 7 x1 →
      zW E l mX11_missed d b G0 Q k12 46 [some (.ref q0), none, some (.int x2), some (.int 0), none, none, none] [] G13))) ∧
    (¬ (x2 < 0) →
      ((60 < x2 →
        xcV E l mX11_demand d [.int 0] G2 k3 (fun X G9 => Q (.inr X) G9) (fun G14 k15 =>
        zob G14 q0 12 ∧
        zob G14 q0 12 ∧
        zob G14 (zrv G14 q0 9) 7 ∧
        xcV E l mX6_copyFrom d [.ref (zrv G14 q0 9), .ref (zrv G14 q0 8)] G14 k15 (fun X G9 => Q (.inr X) G9) (fun G16 k17 =>
        zob G16 q0 12 ∧
        zob G16 (zrv G16 q0 9) 7 ∧
        ∀ G18, G18 = zsi G16 (zrv G16 q0 9) 7 x1 →
        zW E l mX11_missed d b G0 Q k17 46 [some (.ref q0), none, some (.int x2), some (.int 0), none, none, none] [] G18))) ∧
      (¬ (60 < x2) →
        xcV E l mX11_demand d [.int 1] G2 k3 (fun X G9 => Q (.inr X) G9) (fun G19 k20 =>
        zob G19 q0 12 ∧
        zob G19 q0 12 ∧
        zob G19 (zrv G19 q0 9) 7 ∧
        xcV E l mX6_copyFrom d [.ref (zrv G19 q0 9), .ref (zrv G19 q0 8)] G19 k20 (fun X G9 => Q (.inr X) G9) (fun G21 k22 =>
        zob G21 q0 12 ∧
        zob G21 (zrv G21 q0 9) 7 ∧
        ∀ G23, G23 = zsi G21 (zrv G21 q0 9) 7 x1 →
        zW E l mX11_missed d b G0 Q k22 46 [some (.ref q0), none, some (.int x2), some (.int 0), none, none, none] [] G23)))))))))
theorem wpt_X11_missed_0 {E : ZE} {l : Launch} {d b : Nat} {G0 : ZG} {Q : ZQ} {k : Nat} {q0 : Nat} {x1 : Int32} {x2 : Int32} {G : ZG} (h : wp_X11_missed_0 E l d b G0 Q k q0 x1 x2 G) : zW E l mX11_missed d b G0 Q k 0 [some (.ref q0), some (.int x1), some (.int x2), none, none, none, none] [] G := by
  unfold wp_X11_missed_0 at h
  refine z_iload_n (pc' := 1) dX11_missed_0 rfl rfl ?_
  obtain ⟨d1, b1, Qz, hm, hdd, hb, hkx, hk⟩ := h
  refine z_callS (Y := mX11_isOrder) (n := 1) (as := [.int x1]) (st := []) (pc' := 4) hm dX11_missed_1 kX11_324 sX11_isOrder rfl rfl hdd hb (Nat.le_of_ble_eq_true rfl) (fun r G2 hz => ?_) hkx
  obtain ⟨y1, rfl, h⟩ := hk r G2 hz
  refine z_if_eq (pt := 21) (pc' := 7) dX11_missed_4 (by decide) rfl (fun hc => ?_) (fun hc => ?_)
  · have h := h.1 hc
    refine z_iconst (x := 0) (pc' := 22) dX11_missed_21 (by decide) rfl ?_
    obtain ⟨d1, b1, Qz, hm, hdd, hb, hkx, hk⟩ := h
    refine z_callS (Y := mX11_demand) (n := 1) (as := [.int 0]) (st := []) (pc' := 25) hm dX11_missed_22 kX11_86 sX11_demand rfl rfl hdd hb (Nat.le_of_ble_eq_true rfl) (fun r G4 hz => ?_) hkx
    obtain ⟨rfl, h⟩ := hk r G4 hz
    refine z_aload_n (pc' := 26) dX11_missed_25 rfl rfl ?_
    obtain ⟨h1, h⟩ := h
    refine z_getR (ci := 12) (kf := 9) (pc' := 29) dX11_missed_26 kX11_66 (Or.inl rfl) (by decide) (by decide) rfl rfl h1 ?_
    refine z_aload_n (pc' := 30) dX11_missed_29 rfl rfl ?_
    obtain ⟨h1, h⟩ := h
    refine z_getR (ci := 12) (kf := 8) (pc' := 33) dX11_missed_30 kX11_62 (Or.inl rfl) (by decide) (by decide) rfl rfl h1 ?_
    obtain ⟨h1, h⟩ := h
    obtain ⟨d1, b1, Qz, hm, hdd, hb, hkx, hk⟩ := h
    refine z_callV (Y := mX6_copyFrom) (n := 1) (as := [.ref (zrv G4 q0 8)]) (st := []) (pc' := 36) (ci := 7) (q := (zrv G4 q0 9)) hm dX11_missed_33 kX11_373 vX6_copyFrom rfl rfl (by decide) rfl h1 hdd hb (Nat.le_of_ble_eq_true rfl) (fun r G6 hz => ?_) hkx
    obtain ⟨rfl, h⟩ := hk r G6 hz
    refine z_aload_n (pc' := 37) dX11_missed_36 rfl rfl ?_
    obtain ⟨h1, h⟩ := h
    refine z_getR (ci := 12) (kf := 9) (pc' := 40) dX11_missed_37 kX11_66 (Or.inl rfl) (by decide) (by decide) rfl rfl h1 ?_
    refine z_iload_n (pc' := 41) dX11_missed_40 rfl rfl ?_
    obtain ⟨h1, h⟩ := h
    obtain ⟨G8, hG⟩ : ∃ z, z = zsi G6 (zrv G6 q0 9) 7 x1 := ⟨_, rfl⟩
    have h := h _ hG
    refine z_putI (ci := 7) (kf := 7) (pc' := 44) dX11_missed_41 kX11_327 (Or.inl rfl) (by decide) (by decide) rfl (Or.inl rfl) rfl h1 (zok_int _) ?_
    refine z_st hG ?_
    refine z_iconst (x := 0) (pc' := 45) dX11_missed_44 (by decide) rfl ?_
    refine z_istore_n (pc' := 46) dX11_missed_45 (by decide) rfl ?_
    exact z_dr (ls' := [some (.ref q0), none, some (.int x2), some (.int 0), none, none, none]) ⟨rfl, rfl, rfl, trivial⟩ h
  · have h := h.2 hc
    refine z_iload_n (pc' := 8) dX11_missed_7 rfl rfl ?_
    refine z_if_lt (pt := 21) (pc' := 11) dX11_missed_8 (by decide) rfl (fun hc => ?_) (fun hc => ?_)
    · have h := h.1 hc
      refine z_iconst (x := 0) (pc' := 22) dX11_missed_21 (by decide) rfl ?_
      obtain ⟨d1, b1, Qz, hm, hdd, hb, hkx, hk⟩ := h
      refine z_callS (Y := mX11_demand) (n := 1) (as := [.int 0]) (st := []) (pc' := 25) hm dX11_missed_22 kX11_86 sX11_demand rfl rfl hdd hb (Nat.le_of_ble_eq_true rfl) (fun r G9 hz => ?_) hkx
      obtain ⟨rfl, h⟩ := hk r G9 hz
      refine z_aload_n (pc' := 26) dX11_missed_25 rfl rfl ?_
      obtain ⟨h1, h⟩ := h
      refine z_getR (ci := 12) (kf := 9) (pc' := 29) dX11_missed_26 kX11_66 (Or.inl rfl) (by decide) (by decide) rfl rfl h1 ?_
      refine z_aload_n (pc' := 30) dX11_missed_29 rfl rfl ?_
      obtain ⟨h1, h⟩ := h
      refine z_getR (ci := 12) (kf := 8) (pc' := 33) dX11_missed_30 kX11_62 (Or.inl rfl) (by decide) (by decide) rfl rfl h1 ?_
      obtain ⟨h1, h⟩ := h
      obtain ⟨d1, b1, Qz, hm, hdd, hb, hkx, hk⟩ := h
      refine z_callV (Y := mX6_copyFrom) (n := 1) (as := [.ref (zrv G9 q0 8)]) (st := []) (pc' := 36) (ci := 7) (q := (zrv G9 q0 9)) hm dX11_missed_33 kX11_373 vX6_copyFrom rfl rfl (by decide) rfl h1 hdd hb (Nat.le_of_ble_eq_true rfl) (fun r G11 hz => ?_) hkx
      obtain ⟨rfl, h⟩ := hk r G11 hz
      refine z_aload_n (pc' := 37) dX11_missed_36 rfl rfl ?_
      obtain ⟨h1, h⟩ := h
      refine z_getR (ci := 12) (kf := 9) (pc' := 40) dX11_missed_37 kX11_66 (Or.inl rfl) (by decide) (by decide) rfl rfl h1 ?_
      refine z_iload_n (pc' := 41) dX11_missed_40 rfl rfl ?_
      obtain ⟨h1, h⟩ := h
      obtain ⟨G13, hG⟩ : ∃ z, z = zsi G11 (zrv G11 q0 9) 7 x1 := ⟨_, rfl⟩
      have h := h _ hG
      refine z_putI (ci := 7) (kf := 7) (pc' := 44) dX11_missed_41 kX11_327 (Or.inl rfl) (by decide) (by decide) rfl (Or.inl rfl) rfl h1 (zok_int _) ?_
      refine z_st hG ?_
      refine z_iconst (x := 0) (pc' := 45) dX11_missed_44 (by decide) rfl ?_
      refine z_istore_n (pc' := 46) dX11_missed_45 (by decide) rfl ?_
      exact z_dr (ls' := [some (.ref q0), none, some (.int x2), some (.int 0), none, none, none]) ⟨rfl, rfl, rfl, trivial⟩ h
    · have h := h.2 hc
      refine z_iload_n (pc' := 12) dX11_missed_11 rfl rfl ?_
      refine z_bipush (x := 60) (pc' := 14) dX11_missed_12 (by decide) rfl ?_
      refine z_icmp_gt (pt := 21) (pc' := 17) dX11_missed_14 (by decide) rfl (fun hc => ?_) (fun hc => ?_)
      · have h := h.1 hc
        refine z_iconst (x := 0) (pc' := 22) dX11_missed_21 (by decide) rfl ?_
        obtain ⟨d1, b1, Qz, hm, hdd, hb, hkx, hk⟩ := h
        refine z_callS (Y := mX11_demand) (n := 1) (as := [.int 0]) (st := []) (pc' := 25) hm dX11_missed_22 kX11_86 sX11_demand rfl rfl hdd hb (Nat.le_of_ble_eq_true rfl) (fun r G14 hz => ?_) hkx
        obtain ⟨rfl, h⟩ := hk r G14 hz
        refine z_aload_n (pc' := 26) dX11_missed_25 rfl rfl ?_
        obtain ⟨h1, h⟩ := h
        refine z_getR (ci := 12) (kf := 9) (pc' := 29) dX11_missed_26 kX11_66 (Or.inl rfl) (by decide) (by decide) rfl rfl h1 ?_
        refine z_aload_n (pc' := 30) dX11_missed_29 rfl rfl ?_
        obtain ⟨h1, h⟩ := h
        refine z_getR (ci := 12) (kf := 8) (pc' := 33) dX11_missed_30 kX11_62 (Or.inl rfl) (by decide) (by decide) rfl rfl h1 ?_
        obtain ⟨h1, h⟩ := h
        obtain ⟨d1, b1, Qz, hm, hdd, hb, hkx, hk⟩ := h
        refine z_callV (Y := mX6_copyFrom) (n := 1) (as := [.ref (zrv G14 q0 8)]) (st := []) (pc' := 36) (ci := 7) (q := (zrv G14 q0 9)) hm dX11_missed_33 kX11_373 vX6_copyFrom rfl rfl (by decide) rfl h1 hdd hb (Nat.le_of_ble_eq_true rfl) (fun r G16 hz => ?_) hkx
        obtain ⟨rfl, h⟩ := hk r G16 hz
        refine z_aload_n (pc' := 37) dX11_missed_36 rfl rfl ?_
        obtain ⟨h1, h⟩ := h
        refine z_getR (ci := 12) (kf := 9) (pc' := 40) dX11_missed_37 kX11_66 (Or.inl rfl) (by decide) (by decide) rfl rfl h1 ?_
        refine z_iload_n (pc' := 41) dX11_missed_40 rfl rfl ?_
        obtain ⟨h1, h⟩ := h
        obtain ⟨G18, hG⟩ : ∃ z, z = zsi G16 (zrv G16 q0 9) 7 x1 := ⟨_, rfl⟩
        have h := h _ hG
        refine z_putI (ci := 7) (kf := 7) (pc' := 44) dX11_missed_41 kX11_327 (Or.inl rfl) (by decide) (by decide) rfl (Or.inl rfl) rfl h1 (zok_int _) ?_
        refine z_st hG ?_
        refine z_iconst (x := 0) (pc' := 45) dX11_missed_44 (by decide) rfl ?_
        refine z_istore_n (pc' := 46) dX11_missed_45 (by decide) rfl ?_
        exact z_dr (ls' := [some (.ref q0), none, some (.int x2), some (.int 0), none, none, none]) ⟨rfl, rfl, rfl, trivial⟩ h
      · have h := h.2 hc
        refine z_iconst (x := 1) (pc' := 18) dX11_missed_17 (by decide) rfl ?_
        refine z_goto (pc' := 22) dX11_missed_18 (by decide) ?_
        obtain ⟨d1, b1, Qz, hm, hdd, hb, hkx, hk⟩ := h
        refine z_callS (Y := mX11_demand) (n := 1) (as := [.int 1]) (st := []) (pc' := 25) hm dX11_missed_22 kX11_86 sX11_demand rfl rfl hdd hb (Nat.le_of_ble_eq_true rfl) (fun r G19 hz => ?_) hkx
        obtain ⟨rfl, h⟩ := hk r G19 hz
        refine z_aload_n (pc' := 26) dX11_missed_25 rfl rfl ?_
        obtain ⟨h1, h⟩ := h
        refine z_getR (ci := 12) (kf := 9) (pc' := 29) dX11_missed_26 kX11_66 (Or.inl rfl) (by decide) (by decide) rfl rfl h1 ?_
        refine z_aload_n (pc' := 30) dX11_missed_29 rfl rfl ?_
        obtain ⟨h1, h⟩ := h
        refine z_getR (ci := 12) (kf := 8) (pc' := 33) dX11_missed_30 kX11_62 (Or.inl rfl) (by decide) (by decide) rfl rfl h1 ?_
        obtain ⟨h1, h⟩ := h
        obtain ⟨d1, b1, Qz, hm, hdd, hb, hkx, hk⟩ := h
        refine z_callV (Y := mX6_copyFrom) (n := 1) (as := [.ref (zrv G19 q0 8)]) (st := []) (pc' := 36) (ci := 7) (q := (zrv G19 q0 9)) hm dX11_missed_33 kX11_373 vX6_copyFrom rfl rfl (by decide) rfl h1 hdd hb (Nat.le_of_ble_eq_true rfl) (fun r G21 hz => ?_) hkx
        obtain ⟨rfl, h⟩ := hk r G21 hz
        refine z_aload_n (pc' := 37) dX11_missed_36 rfl rfl ?_
        obtain ⟨h1, h⟩ := h
        refine z_getR (ci := 12) (kf := 9) (pc' := 40) dX11_missed_37 kX11_66 (Or.inl rfl) (by decide) (by decide) rfl rfl h1 ?_
        refine z_iload_n (pc' := 41) dX11_missed_40 rfl rfl ?_
        obtain ⟨h1, h⟩ := h
        obtain ⟨G23, hG⟩ : ∃ z, z = zsi G21 (zrv G21 q0 9) 7 x1 := ⟨_, rfl⟩
        have h := h _ hG
        refine z_putI (ci := 7) (kf := 7) (pc' := 44) dX11_missed_41 kX11_327 (Or.inl rfl) (by decide) (by decide) rfl (Or.inl rfl) rfl h1 (zok_int _) ?_
        refine z_st hG ?_
        refine z_iconst (x := 0) (pc' := 45) dX11_missed_44 (by decide) rfl ?_
        refine z_istore_n (pc' := 46) dX11_missed_45 (by decide) rfl ?_
        exact z_dr (ls' := [some (.ref q0), none, some (.int x2), some (.int 0), none, none, none]) ⟨rfl, rfl, rfl, trivial⟩ h
def wp_X11_missed_46 (E : ZE) (l : Launch) (d b : Nat) (G0 : ZG) (Q : ZQ) (k : Nat) (q0 : Nat) (x2 : Int32) (x3 : Int32) (G : ZG) : Prop :=
  ((x2 ≤ x3 →
    zW E l mX11_missed d b G0 Q k 69 [some (.ref q0), none, some (.int x2), some (.int 0), some (.int 0), none, none] [] G) ∧
  (¬ (x2 ≤ x3) →
    zob G q0 12 ∧
    zob G (zrv G q0 9) 7 ∧
    xcV E l mX6_passDay d [.ref (zrv G q0 9)] G k (fun X G9 => Q (.inr X) G9) (fun G1 k2 =>
    zW E l mX11_missed d b G0 Q k2 46 [some (.ref q0), none, some (.int x2), some (.int (x3 + 1)), none, none, none] [] G1)))
theorem wpt_X11_missed_46 {E : ZE} {l : Launch} {d b : Nat} {G0 : ZG} {Q : ZQ} {k : Nat} {q0 : Nat} {x2 : Int32} {x3 : Int32} {G : ZG} (h : wp_X11_missed_46 E l d b G0 Q k q0 x2 x3 G) : zW E l mX11_missed d b G0 Q k 46 [some (.ref q0), none, some (.int x2), some (.int x3), none, none, none] [] G := by
  unfold wp_X11_missed_46 at h
  refine z_iload_n (pc' := 47) dX11_missed_46 rfl rfl ?_
  refine z_iload_n (pc' := 48) dX11_missed_47 rfl rfl ?_
  refine z_icmp_ge (pt := 64) (pc' := 51) dX11_missed_48 (by decide) rfl (fun hc => ?_) (fun hc => ?_)
  · have h := h.1 hc
    refine z_iconst (x := 0) (pc' := 65) dX11_missed_64 (by decide) rfl ?_
    refine z_istore_n (pc' := 66) dX11_missed_65 (by decide) rfl ?_
    refine z_iconst (x := 0) (pc' := 67) dX11_missed_66 (by decide) rfl ?_
    refine z_istore (pc' := 69) dX11_missed_67 (by decide) rfl ?_
    exact z_dr (ls' := [some (.ref q0), none, some (.int x2), some (.int 0), some (.int 0), none, none]) ⟨rfl, rfl, rfl, rfl, trivial⟩ h
  · have h := h.2 hc
    refine z_aload_n (pc' := 52) dX11_missed_51 rfl rfl ?_
    obtain ⟨h1, h⟩ := h
    refine z_getR (ci := 12) (kf := 9) (pc' := 55) dX11_missed_52 kX11_66 (Or.inl rfl) (by decide) (by decide) rfl rfl h1 ?_
    obtain ⟨h1, h⟩ := h
    obtain ⟨d1, b1, Qz, hm, hdd, hb, hkx, hk⟩ := h
    refine z_callV (Y := mX6_passDay) (n := 0) (as := []) (st := []) (pc' := 58) (ci := 7) (q := (zrv G q0 9)) hm dX11_missed_55 kX11_339 vX6_passDay rfl rfl (by decide) rfl h1 hdd hb (Nat.le_of_ble_eq_true rfl) (fun r G1 hz => ?_) hkx
    obtain ⟨rfl, h⟩ := hk r G1 hz
    refine z_iinc (y := x3 + 1) (pc' := 61) dX11_missed_58 rfl (zinc_1 _) (by decide) rfl ?_
    refine z_goto (pc' := 46) dX11_missed_61 (by decide) ?_
    exact z_dr (ls' := [some (.ref q0), none, some (.int x2), some (.int (x3 + 1)), none, none, none]) ⟨rfl, rfl, rfl, trivial⟩ h
def wp_X11_missed_69 (E : ZE) (l : Launch) (d b : Nat) (G0 : ZG) (Q : ZQ) (k : Nat) (q0 : Nat) (x2 : Int32) (x3 : Int32) (x4 : Int32) (G : ZG) : Prop :=
  zob G q0 12 ∧
  zob G (zrv G q0 8) 7 ∧
  zob G (zrv G (zrv G q0 8) 3) 0 ∧
  xcI E l mJx4a65c_size_8abf5 d [.ref (zrv G (zrv G q0 8) 3)] G k (fun X G9 => Q (.inr X) G9) (fun y1 G2 k3 =>
  ((y1 ≤ x4 →
    Q (.inl (some (.int x3))) G2) ∧
  (¬ (y1 ≤ x4) →
    zob G2 q0 12 ∧
    zob G2 (zrv G2 q0 9) 7 ∧
    zob G2 (zrv G2 (zrv G2 q0 9) 3) 0 ∧
    xcI E l mJx4a65c_size_8abf5 d [.ref (zrv G2 (zrv G2 q0 9) 3)] G2 k3 (fun X G9 => Q (.inr X) G9) (fun y4 G5 k6 =>
    ((y4 ≤ x4 →
      Q (.inl (some (.int x3))) G5) ∧
    (¬ (y4 ≤ x4) →
      zob G5 q0 12 ∧
      zob G5 (zrv G5 q0 8) 7 ∧
      zob G5 (zrv G5 (zrv G5 q0 8) 3) 0 ∧
      xcR E l mJx4a65c_get_915e3 d [.ref (zrv G5 (zrv G5 q0 8) 3), .int x4] G5 k6 (fun X G9 => Q (.inr X) G9) (fun y7 G8 k9 =>
      zob G8 y7 1 ∧
      zob G8 y7 1 ∧
      ((6 < (ziv G8 y7 7) →
        zW E l mX11_missed d b G0 Q k9 148 [some (.ref q0), none, some (.int x2), some (.int x3), some (.int x4), none, none] [.int 0] G8) ∧
      (¬ (6 < (ziv G8 y7 7)) →
        zob G8 y7 1 ∧
        zob G8 q0 12 ∧
        zob G8 (zrv G8 q0 8) 7 ∧
        ((((ziv G8 (zrv G8 q0 8) 6) + x2) < (ziv G8 y7 4) →
          zW E l mX11_missed d b G0 Q k9 148 [some (.ref q0), none, some (.int x2), some (.int x3), some (.int x4), none, none] [.int 0] G8) ∧
        (¬ (((ziv G8 (zrv G8 q0 8) 6) + x2) < (ziv G8 y7 4)) →
          zW E l mX11_missed d b G0 Q k9 148 [some (.ref q0), none, some (.int x2), some (.int x3), some (.int x4), none, none] [.int 1] G8)))))))))))
theorem wpt_X11_missed_69 {E : ZE} {l : Launch} {d b : Nat} {G0 : ZG} {Q : ZQ} {k : Nat} {q0 : Nat} {x2 : Int32} {x3 : Int32} {x4 : Int32} {G : ZG} (h : wp_X11_missed_69 E l d b G0 Q k q0 x2 x3 x4 G) : zW E l mX11_missed d b G0 Q k 69 [some (.ref q0), none, some (.int x2), some (.int x3), some (.int x4), none, none] [] G := by
  unfold wp_X11_missed_69 at h
  refine z_iload (pc' := 71) dX11_missed_69 rfl rfl ?_
  refine z_aload_n (pc' := 72) dX11_missed_71 rfl rfl ?_
  obtain ⟨h1, h⟩ := h
  refine z_getR (ci := 12) (kf := 8) (pc' := 75) dX11_missed_72 kX11_62 (Or.inl rfl) (by decide) (by decide) rfl rfl h1 ?_
  obtain ⟨h1, h⟩ := h
  refine z_getR (ci := 7) (kf := 3) (pc' := 78) dX11_missed_75 kX11_223 (Or.inl rfl) (by decide) (by decide) rfl rfl h1 ?_
  obtain ⟨h1, h⟩ := h
  obtain ⟨d1, b1, Qz, hm, hdd, hb, hkx, hk⟩ := h
  refine z_callV (Y := mJx4a65c_size_8abf5) (n := 0) (as := []) (st := [.int x4]) (pc' := 81) (ci := 0) (q := (zrv G (zrv G q0 8) 3)) hm dX11_missed_78 kX11_97 vJx4a65c_size_8abf5 rfl rfl (by decide) rfl h1 hdd hb (Nat.le_of_ble_eq_true rfl) (fun r G2 hz => ?_) hkx
  obtain ⟨y1, rfl, h⟩ := hk r G2 hz
  refine z_icmp_ge (pt := 185) (pc' := 84) dX11_missed_81 (by decide) rfl (fun hc => ?_) (fun hc => ?_)
  · have h := h.1 hc
    refine z_iload_n (pc' := 186) dX11_missed_185 rfl rfl ?_
    exact z_iret dX11_missed_186 rfl h
  · have h := h.2 hc
    refine z_iload (pc' := 86) dX11_missed_84 rfl rfl ?_
    refine z_aload_n (pc' := 87) dX11_missed_86 rfl rfl ?_
    obtain ⟨h1, h⟩ := h
    refine z_getR (ci := 12) (kf := 9) (pc' := 90) dX11_missed_87 kX11_66 (Or.inl rfl) (by decide) (by decide) rfl rfl h1 ?_
    obtain ⟨h1, h⟩ := h
    refine z_getR (ci := 7) (kf := 3) (pc' := 93) dX11_missed_90 kX11_223 (Or.inl rfl) (by decide) (by decide) rfl rfl h1 ?_
    obtain ⟨h1, h⟩ := h
    obtain ⟨d1, b1, Qz, hm, hdd, hb, hkx, hk⟩ := h
    refine z_callV (Y := mJx4a65c_size_8abf5) (n := 0) (as := []) (st := [.int x4]) (pc' := 96) (ci := 0) (q := (zrv G2 (zrv G2 q0 9) 3)) hm dX11_missed_93 kX11_97 vJx4a65c_size_8abf5 rfl rfl (by decide) rfl h1 hdd hb (Nat.le_of_ble_eq_true rfl) (fun r G5 hz => ?_) hkx
    obtain ⟨y4, rfl, h⟩ := hk r G5 hz
    refine z_icmp_ge (pt := 185) (pc' := 99) dX11_missed_96 (by decide) rfl (fun hc => ?_) (fun hc => ?_)
    · have h := h.1 hc
      refine z_iload_n (pc' := 186) dX11_missed_185 rfl rfl ?_
      exact z_iret dX11_missed_186 rfl h
    · have h := h.2 hc
      refine z_aload_n (pc' := 100) dX11_missed_99 rfl rfl ?_
      obtain ⟨h1, h⟩ := h
      refine z_getR (ci := 12) (kf := 8) (pc' := 103) dX11_missed_100 kX11_62 (Or.inl rfl) (by decide) (by decide) rfl rfl h1 ?_
      obtain ⟨h1, h⟩ := h
      refine z_getR (ci := 7) (kf := 3) (pc' := 106) dX11_missed_103 kX11_223 (Or.inl rfl) (by decide) (by decide) rfl rfl h1 ?_
      refine z_iload (pc' := 108) dX11_missed_106 rfl rfl ?_
      obtain ⟨h1, h⟩ := h
      obtain ⟨d1, b1, Qz, hm, hdd, hb, hkx, hk⟩ := h
      refine z_callV (Y := mJx4a65c_get_915e3) (n := 1) (as := [.int x4]) (st := []) (pc' := 111) (ci := 0) (q := (zrv G5 (zrv G5 q0 8) 3)) hm dX11_missed_108 kX11_111 vJx4a65c_get_915e3 rfl rfl (by decide) rfl h1 hdd hb (Nat.le_of_ble_eq_true rfl) (fun r G8 hz => ?_) hkx
      obtain ⟨y7, rfl, h⟩ := hk r G8 hz
      obtain ⟨h1, h⟩ := h
      refine z_castO (ci := 1) (pc' := 114) dX11_missed_111 kX11_218 (by decide) rfl h1 ?_
      refine z_astore (pc' := 116) dX11_missed_114 (by decide) rfl ?_
      refine z_aload (pc' := 118) dX11_missed_116 rfl rfl ?_
      obtain ⟨h1, h⟩ := h
      refine z_getI (ci := 1) (kf := 7) (pc' := 121) dX11_missed_118 kX11_240 (Or.inl rfl) (by decide) (by decide) rfl rfl h1 ?_
      refine z_bipush (x := 6) (pc' := 123) dX11_missed_121 (by decide) rfl ?_
      refine z_icmp_gt (pt := 147) (pc' := 126) dX11_missed_123 (by decide) rfl (fun hc => ?_) (fun hc => ?_)
      · have h := h.1 hc
        refine z_iconst (x := 0) (pc' := 148) dX11_missed_147 (by decide) rfl ?_
        exact z_dr (ls' := [some (.ref q0), none, some (.int x2), some (.int x3), some (.int x4), none, none]) ⟨rfl, rfl, rfl, rfl, trivial⟩ h
      · have h := h.2 hc
        refine z_aload (pc' := 128) dX11_missed_126 rfl rfl ?_
        obtain ⟨h1, h⟩ := h
        refine z_getI (ci := 1) (kf := 4) (pc' := 131) dX11_missed_128 kX11_272 (Or.inl rfl) (by decide) (by decide) rfl rfl h1 ?_
        refine z_aload_n (pc' := 132) dX11_missed_131 rfl rfl ?_
        obtain ⟨h1, h⟩ := h
        refine z_getR (ci := 12) (kf := 8) (pc' := 135) dX11_missed_132 kX11_62 (Or.inl rfl) (by decide) (by decide) rfl rfl h1 ?_
        obtain ⟨h1, h⟩ := h
        refine z_getI (ci := 7) (kf := 6) (pc' := 138) dX11_missed_135 kX11_83 (Or.inl rfl) (by decide) (by decide) rfl rfl h1 ?_
        refine z_iload_n (pc' := 139) dX11_missed_138 rfl rfl ?_
        refine z_iadd (pc' := 140) dX11_missed_139 rfl rfl ?_
        refine z_icmp_gt (pt := 147) (pc' := 143) dX11_missed_140 (by decide) rfl (fun hc => ?_) (fun hc => ?_)
        · have h := h.1 hc
          refine z_iconst (x := 0) (pc' := 148) dX11_missed_147 (by decide) rfl ?_
          exact z_dr (ls' := [some (.ref q0), none, some (.int x2), some (.int x3), some (.int x4), none, none]) ⟨rfl, rfl, rfl, rfl, trivial⟩ h
        · have h := h.2 hc
          refine z_iconst (x := 1) (pc' := 144) dX11_missed_143 (by decide) rfl ?_
          refine z_goto (pc' := 148) dX11_missed_144 (by decide) ?_
          exact z_dr (ls' := [some (.ref q0), none, some (.int x2), some (.int x3), some (.int x4), none, none]) ⟨rfl, rfl, rfl, rfl, trivial⟩ h
def wp_X11_missed_148 (E : ZE) (l : Launch) (d b : Nat) (G0 : ZG) (Q : ZQ) (k : Nat) (q0 : Nat) (x2 : Int32) (x3 : Int32) (x4 : Int32) (s0 : Int32) (G : ZG) : Prop :=
  ((s0 = 0 →
    zW E l mX11_missed d b G0 Q k 69 [some (.ref q0), none, some (.int x2), some (.int x3), some (.int (x4 + 1)), none, none] [] G) ∧
  (¬ (s0 = 0) →
    zob G q0 12 ∧
    zob G (zrv G q0 9) 7 ∧
    zob G (zrv G (zrv G q0 9) 3) 0 ∧
    xcR E l mJx4a65c_get_915e3 d [.ref (zrv G (zrv G q0 9) 3), .int x4] G k (fun X G9 => Q (.inr X) G9) (fun y1 G2 k3 =>
    zob G2 y1 1 ∧
    zob G2 y1 1 ∧
    xcI E l mX0_isGotInTime d [.ref y1] G2 k3 (fun X G9 => Q (.inr X) G9) (fun y4 G5 k6 =>
    ((¬ y4 = 0 →
      zW E l mX11_missed d b G0 Q k6 69 [some (.ref q0), none, some (.int x2), some (.int x3), some (.int (x4 + 1)), none, none] [] G5) ∧
    (¬ (¬ y4 = 0) →
      zW E l mX11_missed d b G0 Q k6 69 [some (.ref q0), none, some (.int x2), some (.int (x3 + 1)), some (.int (x4 + 1)), none, none] [] G5))))))
theorem wpt_X11_missed_148 {E : ZE} {l : Launch} {d b : Nat} {G0 : ZG} {Q : ZQ} {k : Nat} {q0 : Nat} {x2 : Int32} {x3 : Int32} {x4 : Int32} {s0 : Int32} {G : ZG} (h : wp_X11_missed_148 E l d b G0 Q k q0 x2 x3 x4 s0 G) : zW E l mX11_missed d b G0 Q k 148 [some (.ref q0), none, some (.int x2), some (.int x3), some (.int x4), none, none] [.int s0] G := by
  unfold wp_X11_missed_148 at h
  refine z_istore (pc' := 150) dX11_missed_148 (by decide) rfl ?_
  refine z_iload (pc' := 152) dX11_missed_150 rfl rfl ?_
  refine z_if_eq (pt := 179) (pc' := 155) dX11_missed_152 (by decide) rfl (fun hc => ?_) (fun hc => ?_)
  · have h := h.1 hc
    refine z_iinc (y := x4 + 1) (pc' := 182) dX11_missed_179 rfl (zinc_1 _) (by decide) rfl ?_
    refine z_goto (pc' := 69) dX11_missed_182 (by decide) ?_
    exact z_dr (ls' := [some (.ref q0), none, some (.int x2), some (.int x3), some (.int (x4 + 1)), none, none]) ⟨rfl, rfl, rfl, rfl, trivial⟩ h
  · have h := h.2 hc
    refine z_aload_n (pc' := 156) dX11_missed_155 rfl rfl ?_
    obtain ⟨h1, h⟩ := h
    refine z_getR (ci := 12) (kf := 9) (pc' := 159) dX11_missed_156 kX11_66 (Or.inl rfl) (by decide) (by decide) rfl rfl h1 ?_
    obtain ⟨h1, h⟩ := h
    refine z_getR (ci := 7) (kf := 3) (pc' := 162) dX11_missed_159 kX11_223 (Or.inl rfl) (by decide) (by decide) rfl rfl h1 ?_
    refine z_iload (pc' := 164) dX11_missed_162 rfl rfl ?_
    obtain ⟨h1, h⟩ := h
    obtain ⟨d1, b1, Qz, hm, hdd, hb, hkx, hk⟩ := h
    refine z_callV (Y := mJx4a65c_get_915e3) (n := 1) (as := [.int x4]) (st := []) (pc' := 167) (ci := 0) (q := (zrv G (zrv G q0 9) 3)) hm dX11_missed_164 kX11_111 vJx4a65c_get_915e3 rfl rfl (by decide) rfl h1 hdd hb (Nat.le_of_ble_eq_true rfl) (fun r G2 hz => ?_) hkx
    obtain ⟨y1, rfl, h⟩ := hk r G2 hz
    obtain ⟨h1, h⟩ := h
    refine z_castO (ci := 1) (pc' := 170) dX11_missed_167 kX11_218 (by decide) rfl h1 ?_
    obtain ⟨h1, h⟩ := h
    obtain ⟨d1, b1, Qz, hm, hdd, hb, hkx, hk⟩ := h
    refine z_callV (Y := mX0_isGotInTime) (n := 0) (as := []) (st := []) (pc' := 173) (ci := 1) (q := y1) hm dX11_missed_170 kX11_377 vX0_isGotInTime rfl rfl (by decide) rfl h1 hdd hb (Nat.le_of_ble_eq_true rfl) (fun r G5 hz => ?_) hkx
    obtain ⟨y4, rfl, h⟩ := hk r G5 hz
    refine z_if_ne (pt := 179) (pc' := 176) dX11_missed_173 (by decide) rfl (fun hc => ?_) (fun hc => ?_)
    · have h := h.1 hc
      refine z_iinc (y := x4 + 1) (pc' := 182) dX11_missed_179 rfl (zinc_1 _) (by decide) rfl ?_
      refine z_goto (pc' := 69) dX11_missed_182 (by decide) ?_
      exact z_dr (ls' := [some (.ref q0), none, some (.int x2), some (.int x3), some (.int (x4 + 1)), none, none]) ⟨rfl, rfl, rfl, rfl, trivial⟩ h
    · have h := h.2 hc
      refine z_iinc (y := x3 + 1) (pc' := 179) dX11_missed_176 rfl (zinc_1 _) (by decide) rfl ?_
      refine z_iinc (y := x4 + 1) (pc' := 182) dX11_missed_179 rfl (zinc_1 _) (by decide) rfl ?_
      refine z_goto (pc' := 69) dX11_missed_182 (by decide) ?_
      exact z_dr (ls' := [some (.ref q0), none, some (.int x2), some (.int (x3 + 1)), some (.int (x4 + 1)), none, none]) ⟨rfl, rfl, rfl, rfl, trivial⟩ h
def wp_X11_name_0 (E : ZE) (l : Launch) (d b : Nat) (G0 : ZG) (Q : ZQ) (k : Nat) (q0 : Nat) (x1 : Int32) (G : ZG) : Prop :=
  zob G q0 12 ∧
  xcR E l mX11_useTapeUp d [.ref q0] G k (fun X G9 => Q (.inr X) G9) (fun y1 G2 k3 =>
  zob G2 q0 12 ∧
  xcR E l mX11_personAt d [.ref q0, .int x1] G2 k3 (fun X G9 => Q (.inr X) G9) (fun y4 G5 k6 =>
  xcI E l mX5_firstWrong d [.ref y1] G5 k6 (fun X G9 => Q (.inr X) G9) (fun y7 G8 k9 =>
  zob G8 q0 12 ∧
  ∀ G10, G10 = zsi G8 q0 2 y7 →
  zob G10 q0 12 ∧
  ((¬ (ziv G10 q0 2) = (-1) →
    xcV E l mX11_demand d [.int 0] G10 k9 (fun X G9 => Q (.inr X) G9) (fun G11 k12 =>
    3 ≤ k12 ∧ ∃ t13, t13 ≠ 0 ∧ t13 < 448 ∧ t13 / 32 = 6 ∧
    ∀ q_14, q_14 = zp t13 (zcn G11 t13) → ∀ G15, G15 = znw G11 t13 0 → ∀ k16, k16 = k12 - 3 →
    zal G15 q_14 ∧
    xcV E l mX5_init d [.ref q_14, .ref y1] G15 k16 (fun X G9 => Q (.inr X) G9) (fun G17 k18 =>
    zob G17 y4 9 ∧
    ∀ G19, G19 = zsr G17 y4 3 q_14 →
    zob G19 y4 9 ∧
    zob G19 (zrv G19 y4 3) 6 ∧
    Q (.inl (some (.int (ziv G19 (zrv G19 y4 3) 1)))) G19))) ∧
  (¬ (¬ (ziv G10 q0 2) = (-1)) →
    xcV E l mX11_demand d [.int 1] G10 k9 (fun X G9 => Q (.inr X) G9) (fun G20 k21 =>
    3 ≤ k21 ∧ ∃ t22, t22 ≠ 0 ∧ t22 < 448 ∧ t22 / 32 = 6 ∧
    ∀ q_23, q_23 = zp t22 (zcn G20 t22) → ∀ G24, G24 = znw G20 t22 0 → ∀ k25, k25 = k21 - 3 →
    zal G24 q_23 ∧
    xcV E l mX5_init d [.ref q_23, .ref y1] G24 k25 (fun X G9 => Q (.inr X) G9) (fun G26 k27 =>
    zob G26 y4 9 ∧
    ∀ G28, G28 = zsr G26 y4 3 q_23 →
    zob G28 y4 9 ∧
    zob G28 (zrv G28 y4 3) 6 ∧
    Q (.inl (some (.int (ziv G28 (zrv G28 y4 3) 1)))) G28)))))))
theorem wpt_X11_name_0 {E : ZE} {l : Launch} {d b : Nat} {G0 : ZG} {Q : ZQ} {k : Nat} {q0 : Nat} {x1 : Int32} {G : ZG} (h : wp_X11_name_0 E l d b G0 Q k q0 x1 G) : zW E l mX11_name d b G0 Q k 0 [some (.ref q0), some (.int x1), none, none] [] G := by
  unfold wp_X11_name_0 at h
  refine z_aload_n (pc' := 1) dX11_name_0 rfl rfl ?_
  obtain ⟨h1, h⟩ := h
  obtain ⟨d1, b1, Qz, hm, hdd, hb, hkx, hk⟩ := h
  refine z_callV (Y := mX11_useTapeUp) (n := 0) (as := []) (st := []) (pc' := 4) (ci := 12) (q := q0) hm dX11_name_1 kX11_79 vX11_useTapeUp rfl rfl (by decide) rfl h1 hdd hb (Nat.le_of_ble_eq_true rfl) (fun r G2 hz => ?_) hkx
  obtain ⟨y1, rfl, h⟩ := hk r G2 hz
  refine z_astore_n (pc' := 5) dX11_name_4 (by decide) rfl ?_
  refine z_aload_n (pc' := 6) dX11_name_5 rfl rfl ?_
  refine z_iload_n (pc' := 7) dX11_name_6 rfl rfl ?_
  obtain ⟨h1, h⟩ := h
  obtain ⟨d1, b1, Qz, hm, hdd, hb, hkx, hk⟩ := h
  refine z_callV (Y := mX11_personAt) (n := 1) (as := [.int x1]) (st := []) (pc' := 10) (ci := 12) (q := q0) hm dX11_name_7 kX11_134 vX11_personAt rfl rfl (by decide) rfl h1 hdd hb (Nat.le_of_ble_eq_true rfl) (fun r G5 hz => ?_) hkx
  obtain ⟨y4, rfl, h⟩ := hk r G5 hz
  refine z_astore_n (pc' := 11) dX11_name_10 (by decide) rfl ?_
  refine z_aload_n (pc' := 12) dX11_name_11 rfl rfl ?_
  refine z_aload_n (pc' := 13) dX11_name_12 rfl rfl ?_
  obtain ⟨d1, b1, Qz, hm, hdd, hb, hkx, hk⟩ := h
  refine z_callS (Y := mX5_firstWrong) (n := 1) (as := [.ref y1]) (st := [.ref q0]) (pc' := 16) hm dX11_name_13 kX11_138 sX5_firstWrong rfl rfl hdd hb (Nat.le_of_ble_eq_true rfl) (fun r G8 hz => ?_) hkx
  obtain ⟨y7, rfl, h⟩ := hk r G8 hz
  obtain ⟨h1, h⟩ := h
  obtain ⟨G10, hG⟩ : ∃ z, z = zsi G8 q0 2 y7 := ⟨_, rfl⟩
  have h := h _ hG
  refine z_putI (ci := 12) (kf := 2) (pc' := 19) dX11_name_16 kX11_17 (Or.inl rfl) (by decide) (by decide) rfl (Or.inl rfl) rfl h1 (zok_int _) ?_
  refine z_st hG ?_
  refine z_aload_n (pc' := 20) dX11_name_19 rfl rfl ?_
  obtain ⟨h1, h⟩ := h
  refine z_getI (ci := 12) (kf := 2) (pc' := 23) dX11_name_20 kX11_17 (Or.inl rfl) (by decide) (by decide) rfl rfl h1 ?_
  refine z_iconst (x := (-1)) (pc' := 24) dX11_name_23 (by decide) rfl ?_
  refine z_icmp_ne (pt := 31) (pc' := 27) dX11_name_24 (by decide) rfl (fun hc => ?_) (fun hc => ?_)
  · have h := h.1 hc
    refine z_iconst (x := 0) (pc' := 32) dX11_name_31 (by decide) rfl ?_
    obtain ⟨d1, b1, Qz, hm, hdd, hb, hkx, hk⟩ := h
    refine z_callS (Y := mX11_demand) (n := 1) (as := [.int 0]) (st := []) (pc' := 35) hm dX11_name_32 kX11_86 sX11_demand rfl rfl hdd hb (Nat.le_of_ble_eq_true rfl) (fun r G11 hz => ?_) hkx
    obtain ⟨rfl, h⟩ := hk r G11 hz
    refine z_aload_n (pc' := 36) dX11_name_35 rfl rfl ?_
    obtain ⟨h1, t13, h2, h3, h4, h⟩ := h
    obtain ⟨q_14, hq⟩ : ∃ z, z = zp t13 (zcn G11 t13) := ⟨_, rfl⟩
    obtain ⟨G15, hG⟩ : ∃ z, z = znw G11 t13 0 := ⟨_, rfl⟩
    have h := h _ hq _ hG _ rfl
    refine z_new (ci := 6) (t := t13) (pc' := 39) dX11_name_36 kX11_139 n6_inst n6_ini (by decide) rfl h2 h3 h4 h1 (z_df (by decide)) ?_
    refine z_mk hq hG ?_
    refine z_dup (pc' := 40) dX11_name_39 rfl rfl ?_
    refine z_aload_n (pc' := 41) dX11_name_40 rfl rfl ?_
    obtain ⟨h1, h⟩ := h
    obtain ⟨d1, b1, Qz, hm, hdd, hb, hkx, hk⟩ := h
    refine z_callI (Y := mX5_init) (n := 1) (as := [.ref y1]) (st := [.ref q_14, .ref y4]) (pc' := 44) (q := q_14) hm dX11_name_41 kX11_143 iX5_init rfl rfl h1 hdd hb (Nat.le_of_ble_eq_true rfl) (fun r G17 hz => ?_) hkx
    obtain ⟨rfl, h⟩ := hk r G17 hz
    obtain ⟨h1, h⟩ := h
    obtain ⟨G19, hG⟩ : ∃ z, z = zsr G17 y4 3 q_14 := ⟨_, rfl⟩
    have h := h _ hG
    refine z_putR (ci := 9) (kf := 3) (pc' := 47) dX11_name_44 kX11_146 (Or.inl rfl) (by decide) (by decide) rfl (Or.inl rfl) rfl h1 ?_
    refine z_st hG ?_
    refine z_aload_n (pc' := 48) dX11_name_47 rfl rfl ?_
    obtain ⟨h1, h⟩ := h
    refine z_getR (ci := 9) (kf := 3) (pc' := 51) dX11_name_48 kX11_146 (Or.inl rfl) (by decide) (by decide) rfl rfl h1 ?_
    obtain ⟨h1, h⟩ := h
    refine z_getI (ci := 6) (kf := 1) (pc' := 54) dX11_name_51 kX11_150 (Or.inl rfl) (by decide) (by decide) rfl rfl h1 ?_
    exact z_iret dX11_name_54 rfl h
  · have h := h.2 hc
    refine z_iconst (x := 1) (pc' := 28) dX11_name_27 (by decide) rfl ?_
    refine z_goto (pc' := 32) dX11_name_28 (by decide) ?_
    obtain ⟨d1, b1, Qz, hm, hdd, hb, hkx, hk⟩ := h
    refine z_callS (Y := mX11_demand) (n := 1) (as := [.int 1]) (st := []) (pc' := 35) hm dX11_name_32 kX11_86 sX11_demand rfl rfl hdd hb (Nat.le_of_ble_eq_true rfl) (fun r G20 hz => ?_) hkx
    obtain ⟨rfl, h⟩ := hk r G20 hz
    refine z_aload_n (pc' := 36) dX11_name_35 rfl rfl ?_
    obtain ⟨h1, t22, h2, h3, h4, h⟩ := h
    obtain ⟨q_23, hq⟩ : ∃ z, z = zp t22 (zcn G20 t22) := ⟨_, rfl⟩
    obtain ⟨G24, hG⟩ : ∃ z, z = znw G20 t22 0 := ⟨_, rfl⟩
    have h := h _ hq _ hG _ rfl
    refine z_new (ci := 6) (t := t22) (pc' := 39) dX11_name_36 kX11_139 n6_inst n6_ini (by decide) rfl h2 h3 h4 h1 (z_df (by decide)) ?_
    refine z_mk hq hG ?_
    refine z_dup (pc' := 40) dX11_name_39 rfl rfl ?_
    refine z_aload_n (pc' := 41) dX11_name_40 rfl rfl ?_
    obtain ⟨h1, h⟩ := h
    obtain ⟨d1, b1, Qz, hm, hdd, hb, hkx, hk⟩ := h
    refine z_callI (Y := mX5_init) (n := 1) (as := [.ref y1]) (st := [.ref q_23, .ref y4]) (pc' := 44) (q := q_23) hm dX11_name_41 kX11_143 iX5_init rfl rfl h1 hdd hb (Nat.le_of_ble_eq_true rfl) (fun r G26 hz => ?_) hkx
    obtain ⟨rfl, h⟩ := hk r G26 hz
    obtain ⟨h1, h⟩ := h
    obtain ⟨G28, hG⟩ : ∃ z, z = zsr G26 y4 3 q_23 := ⟨_, rfl⟩
    have h := h _ hG
    refine z_putR (ci := 9) (kf := 3) (pc' := 47) dX11_name_44 kX11_146 (Or.inl rfl) (by decide) (by decide) rfl (Or.inl rfl) rfl h1 ?_
    refine z_st hG ?_
    refine z_aload_n (pc' := 48) dX11_name_47 rfl rfl ?_
    obtain ⟨h1, h⟩ := h
    refine z_getR (ci := 9) (kf := 3) (pc' := 51) dX11_name_48 kX11_146 (Or.inl rfl) (by decide) (by decide) rfl rfl h1 ?_
    obtain ⟨h1, h⟩ := h
    refine z_getI (ci := 6) (kf := 1) (pc' := 54) dX11_name_51 kX11_150 (Or.inl rfl) (by decide) (by decide) rfl rfl h1 ?_
    exact z_iret dX11_name_54 rfl h
def wp_X11_order_0 (E : ZE) (l : Launch) (d b : Nat) (G0 : ZG) (Q : ZQ) (k : Nat) (q0 : Nat) (x1 : Int32) (G : ZG) : Prop :=
  xcI E l mX11_isOrder d [.int x1] G k (fun X G9 => Q (.inr X) G9) (fun y1 G2 k3 =>
  xcV E l mX11_demand d [.int y1] G2 k3 (fun X G9 => Q (.inr X) G9) (fun G4 k5 =>
  zob G4 q0 12 ∧
  zob G4 (zrv G4 q0 8) 7 ∧
  ∀ G6, G6 = zsi G4 (zrv G4 q0 8) 7 x1 →
  Q (.inl none) G6))
theorem wpt_X11_order_0 {E : ZE} {l : Launch} {d b : Nat} {G0 : ZG} {Q : ZQ} {k : Nat} {q0 : Nat} {x1 : Int32} {G : ZG} (h : wp_X11_order_0 E l d b G0 Q k q0 x1 G) : zW E l mX11_order d b G0 Q k 0 [some (.ref q0), some (.int x1)] [] G := by
  unfold wp_X11_order_0 at h
  refine z_iload_n (pc' := 1) dX11_order_0 rfl rfl ?_
  obtain ⟨d1, b1, Qz, hm, hdd, hb, hkx, hk⟩ := h
  refine z_callS (Y := mX11_isOrder) (n := 1) (as := [.int x1]) (st := []) (pc' := 4) hm dX11_order_1 kX11_324 sX11_isOrder rfl rfl hdd hb (Nat.le_of_ble_eq_true rfl) (fun r G2 hz => ?_) hkx
  obtain ⟨y1, rfl, h⟩ := hk r G2 hz
  obtain ⟨d1, b1, Qz, hm, hdd, hb, hkx, hk⟩ := h
  refine z_callS (Y := mX11_demand) (n := 1) (as := [.int y1]) (st := []) (pc' := 7) hm dX11_order_4 kX11_86 sX11_demand rfl rfl hdd hb (Nat.le_of_ble_eq_true rfl) (fun r G4 hz => ?_) hkx
  obtain ⟨rfl, h⟩ := hk r G4 hz
  refine z_aload_n (pc' := 8) dX11_order_7 rfl rfl ?_
  obtain ⟨h1, h⟩ := h
  refine z_getR (ci := 12) (kf := 8) (pc' := 11) dX11_order_8 kX11_62 (Or.inl rfl) (by decide) (by decide) rfl rfl h1 ?_
  refine z_iload_n (pc' := 12) dX11_order_11 rfl rfl ?_
  obtain ⟨h1, h⟩ := h
  obtain ⟨G6, hG⟩ : ∃ z, z = zsi G4 (zrv G4 q0 8) 7 x1 := ⟨_, rfl⟩
  have h := h _ hG
  refine z_putI (ci := 7) (kf := 7) (pc' := 15) dX11_order_12 kX11_327 (Or.inl rfl) (by decide) (by decide) rfl (Or.inl rfl) rfl h1 (zok_int _) ?_
  refine z_st hG ?_
  exact z_vret dX11_order_15 rfl h
def wp_X11_person_0 (E : ZE) (l : Launch) (d b : Nat) (G0 : ZG) (Q : ZQ) (k : Nat) (q0 : Nat) (x1 : Int32) (x2 : Int32) (x3 : Int32) (x4 : Int32) (x5 : Int32) (x6 : Int32) (x7 : Int32) (G : ZG) : Prop :=
  ((x1 < (-40000) →
    zW E l mX11_person d b G0 Q k 22 [some (.ref q0), some (.int x1), some (.int x2), some (.int x3), some (.int x4), some (.int x5), some (.int x6), some (.int x7), none, none] [.int 0] G) ∧
  (¬ (x1 < (-40000)) →
    zob G q0 12 ∧
    zob G (zrv G q0 8) 7 ∧
    (((ziv G (zrv G q0 8) 6) < x1 →
      zW E l mX11_person d b G0 Q k 22 [some (.ref q0), some (.int x1), some (.int x2), some (.int x3), some (.int x4), some (.int x5), some (.int x6), some (.int x7), none, none] [.int 0] G) ∧
    (¬ ((ziv G (zrv G q0 8) 6) < x1) →
      zW E l mX11_person d b G0 Q k 22 [some (.ref q0), some (.int x1), some (.int x2), some (.int x3), some (.int x4), some (.int x5), some (.int x6), some (.int x7), none, none] [.int 1] G))))
theorem wpt_X11_person_0 {E : ZE} {l : Launch} {d b : Nat} {G0 : ZG} {Q : ZQ} {k : Nat} {q0 : Nat} {x1 : Int32} {x2 : Int32} {x3 : Int32} {x4 : Int32} {x5 : Int32} {x6 : Int32} {x7 : Int32} {G : ZG} (htr : l.stackTraces = false) (h : wp_X11_person_0 E l d b G0 Q k q0 x1 x2 x3 x4 x5 x6 x7 G) : zW E l mX11_person d b G0 Q k 0 [some (.ref q0), some (.int x1), some (.int x2), some (.int x3), some (.int x4), some (.int x5), some (.int x6), some (.int x7), none, none] [] G := by
  unfold wp_X11_person_0 at h
  refine z_iload_n (pc' := 1) dX11_person_0 rfl rfl ?_
  refine z_ldc (x := (-40000)) (pc' := 3) dX11_person_1 kX11_118 rfl ?_
  refine z_icmp_lt (pt := 21) (pc' := 6) dX11_person_3 (by decide) rfl (fun hc => ?_) (fun hc => ?_)
  · have h := h.1 hc
    refine z_iconst (x := 0) (pc' := 22) dX11_person_21 (by decide) rfl ?_
    exact z_dr (ls' := [some (.ref q0), some (.int x1), some (.int x2), some (.int x3), some (.int x4), some (.int x5), some (.int x6), some (.int x7), none, none]) ⟨rfl, rfl, rfl, rfl, rfl, rfl, rfl, rfl, trivial⟩ h
  · have h := h.2 hc
    refine z_iload_n (pc' := 7) dX11_person_6 rfl rfl ?_
    refine z_aload_n (pc' := 8) dX11_person_7 rfl rfl ?_
    obtain ⟨h1, h⟩ := h
    refine z_getR (ci := 12) (kf := 8) (pc' := 11) dX11_person_8 kX11_62 (Or.inl rfl) (by decide) (by decide) rfl rfl h1 ?_
    obtain ⟨h1, h⟩ := h
    refine z_getI (ci := 7) (kf := 6) (pc' := 14) dX11_person_11 kX11_83 (Or.inl rfl) (by decide) (by decide) rfl rfl h1 ?_
    refine z_icmp_gt (pt := 21) (pc' := 17) dX11_person_14 (by decide) rfl (fun hc => ?_) (fun hc => ?_)
    · have h := h.1 hc
      refine z_iconst (x := 0) (pc' := 22) dX11_person_21 (by decide) rfl ?_
      exact z_dr (ls' := [some (.ref q0), some (.int x1), some (.int x2), some (.int x3), some (.int x4), some (.int x5), some (.int x6), some (.int x7), none, none]) ⟨rfl, rfl, rfl, rfl, rfl, rfl, rfl, rfl, trivial⟩ h
    · have h := h.2 hc
      refine z_iconst (x := 1) (pc' := 18) dX11_person_17 (by decide) rfl ?_
      refine z_goto (pc' := 22) dX11_person_18 (by decide) ?_
      exact z_dr (ls' := [some (.ref q0), some (.int x1), some (.int x2), some (.int x3), some (.int x4), some (.int x5), some (.int x6), some (.int x7), none, none]) ⟨rfl, rfl, rfl, rfl, rfl, rfl, rfl, rfl, trivial⟩ h
def wp_X11_person_22 (E : ZE) (l : Launch) (d b : Nat) (G0 : ZG) (Q : ZQ) (k : Nat) (q0 : Nat) (x1 : Int32) (x2 : Int32) (x3 : Int32) (x4 : Int32) (x5 : Int32) (x6 : Int32) (x7 : Int32) (s0 : Int32) (G : ZG) : Prop :=
  xcV E l mX11_demand d [.int s0] G k (fun X G9 => Q (.inr X) G9) (fun G1 k2 =>
  xcI E l mX11_isFace d [.int x3] G1 k2 (fun X G9 => Q (.inr X) G9) (fun y3 G4 k5 =>
  ((y3 = 0 →
    zW E l mX11_person d b G0 Q k5 69 [some (.ref q0), some (.int x1), some (.int x2), some (.int x3), some (.int x4), some (.int x5), some (.int x6), some (.int x7), none, none] [.int 0] G4) ∧
  (¬ (y3 = 0) →
    xcI E l mX11_isFace d [.int x4] G4 k5 (fun X G9 => Q (.inr X) G9) (fun y6 G7 k8 =>
    ((y6 = 0 →
      zW E l mX11_person d b G0 Q k8 69 [some (.ref q0), some (.int x1), some (.int x2), some (.int x3), some (.int x4), some (.int x5), some (.int x6), some (.int x7), none, none] [.int 0] G7) ∧
    (¬ (y6 = 0) →
      xcI E l mX11_isFace d [.int x5] G7 k8 (fun X G9 => Q (.inr X) G9) (fun y9 G10 k11 =>
      ((y9 = 0 →
        zW E l mX11_person d b G0 Q k11 69 [some (.ref q0), some (.int x1), some (.int x2), some (.int x3), some (.int x4), some (.int x5), some (.int x6), some (.int x7), none, none] [.int 0] G10) ∧
      (¬ (y9 = 0) →
        xcI E l mX11_isFace d [.int x6] G10 k11 (fun X G9 => Q (.inr X) G9) (fun y12 G13 k14 =>
        ((y12 = 0 →
          zW E l mX11_person d b G0 Q k14 69 [some (.ref q0), some (.int x1), some (.int x2), some (.int x3), some (.int x4), some (.int x5), some (.int x6), some (.int x7), none, none] [.int 0] G13) ∧
        (¬ (y12 = 0) →
          xcI E l mX11_isFace d [.int x7] G13 k14 (fun X G9 => Q (.inr X) G9) (fun y15 G16 k17 =>
          ((y15 = 0 →
            zW E l mX11_person d b G0 Q k17 69 [some (.ref q0), some (.int x1), some (.int x2), some (.int x3), some (.int x4), some (.int x5), some (.int x6), some (.int x7), none, none] [.int 0] G16) ∧
          (¬ (y15 = 0) →
            zW E l mX11_person d b G0 Q k17 69 [some (.ref q0), some (.int x1), some (.int x2), some (.int x3), some (.int x4), some (.int x5), some (.int x6), some (.int x7), none, none] [.int 1] G16))))))))))))))))
theorem wpt_X11_person_22 {E : ZE} {l : Launch} {d b : Nat} {G0 : ZG} {Q : ZQ} {k : Nat} {q0 : Nat} {x1 : Int32} {x2 : Int32} {x3 : Int32} {x4 : Int32} {x5 : Int32} {x6 : Int32} {x7 : Int32} {s0 : Int32} {G : ZG} (htr : l.stackTraces = false) (h : wp_X11_person_22 E l d b G0 Q k q0 x1 x2 x3 x4 x5 x6 x7 s0 G) : zW E l mX11_person d b G0 Q k 22 [some (.ref q0), some (.int x1), some (.int x2), some (.int x3), some (.int x4), some (.int x5), some (.int x6), some (.int x7), none, none] [.int s0] G := by
  unfold wp_X11_person_22 at h
  obtain ⟨d1, b1, Qz, hm, hdd, hb, hkx, hk⟩ := h
  refine z_callS (Y := mX11_demand) (n := 1) (as := [.int s0]) (st := []) (pc' := 25) hm dX11_person_22 kX11_86 sX11_demand rfl rfl hdd hb (Nat.le_of_ble_eq_true rfl) (fun r G1 hz => ?_) hkx
  obtain ⟨rfl, h⟩ := hk r G1 hz
  refine z_iload_n (pc' := 26) dX11_person_25 rfl rfl ?_
  obtain ⟨d1, b1, Qz, hm, hdd, hb, hkx, hk⟩ := h
  refine z_callS (Y := mX11_isFace) (n := 1) (as := [.int x3]) (st := []) (pc' := 29) hm dX11_person_26 kX11_119 sX11_isFace rfl rfl hdd hb (Nat.le_of_ble_eq_true rfl) (fun r G4 hz => ?_) hkx
  obtain ⟨y3, rfl, h⟩ := hk r G4 hz
  refine z_if_eq (pt := 68) (pc' := 32) dX11_person_29 (by decide) rfl (fun hc => ?_) (fun hc => ?_)
  · have h := h.1 hc
    refine z_iconst (x := 0) (pc' := 69) dX11_person_68 (by decide) rfl ?_
    exact z_dr (ls' := [some (.ref q0), some (.int x1), some (.int x2), some (.int x3), some (.int x4), some (.int x5), some (.int x6), some (.int x7), none, none]) ⟨rfl, rfl, rfl, rfl, rfl, rfl, rfl, rfl, trivial⟩ h
  · have h := h.2 hc
    refine z_iload (pc' := 34) dX11_person_32 rfl rfl ?_
    obtain ⟨d1, b1, Qz, hm, hdd, hb, hkx, hk⟩ := h
    refine z_callS (Y := mX11_isFace) (n := 1) (as := [.int x4]) (st := []) (pc' := 37) hm dX11_person_34 kX11_119 sX11_isFace rfl rfl hdd hb (Nat.le_of_ble_eq_true rfl) (fun r G7 hz => ?_) hkx
    obtain ⟨y6, rfl, h⟩ := hk r G7 hz
    refine z_if_eq (pt := 68) (pc' := 40) dX11_person_37 (by decide) rfl (fun hc => ?_) (fun hc => ?_)
    · have h := h.1 hc
      refine z_iconst (x := 0) (pc' := 69) dX11_person_68 (by decide) rfl ?_
      exact z_dr (ls' := [some (.ref q0), some (.int x1), some (.int x2), some (.int x3), some (.int x4), some (.int x5), some (.int x6), some (.int x7), none, none]) ⟨rfl, rfl, rfl, rfl, rfl, rfl, rfl, rfl, trivial⟩ h
    · have h := h.2 hc
      refine z_iload (pc' := 42) dX11_person_40 rfl rfl ?_
      obtain ⟨d1, b1, Qz, hm, hdd, hb, hkx, hk⟩ := h
      refine z_callS (Y := mX11_isFace) (n := 1) (as := [.int x5]) (st := []) (pc' := 45) hm dX11_person_42 kX11_119 sX11_isFace rfl rfl hdd hb (Nat.le_of_ble_eq_true rfl) (fun r G10 hz => ?_) hkx
      obtain ⟨y9, rfl, h⟩ := hk r G10 hz
      refine z_if_eq (pt := 68) (pc' := 48) dX11_person_45 (by decide) rfl (fun hc => ?_) (fun hc => ?_)
      · have h := h.1 hc
        refine z_iconst (x := 0) (pc' := 69) dX11_person_68 (by decide) rfl ?_
        exact z_dr (ls' := [some (.ref q0), some (.int x1), some (.int x2), some (.int x3), some (.int x4), some (.int x5), some (.int x6), some (.int x7), none, none]) ⟨rfl, rfl, rfl, rfl, rfl, rfl, rfl, rfl, trivial⟩ h
      · have h := h.2 hc
        refine z_iload (pc' := 50) dX11_person_48 rfl rfl ?_
        obtain ⟨d1, b1, Qz, hm, hdd, hb, hkx, hk⟩ := h
        refine z_callS (Y := mX11_isFace) (n := 1) (as := [.int x6]) (st := []) (pc' := 53) hm dX11_person_50 kX11_119 sX11_isFace rfl rfl hdd hb (Nat.le_of_ble_eq_true rfl) (fun r G13 hz => ?_) hkx
        obtain ⟨y12, rfl, h⟩ := hk r G13 hz
        refine z_if_eq (pt := 68) (pc' := 56) dX11_person_53 (by decide) rfl (fun hc => ?_) (fun hc => ?_)
        · have h := h.1 hc
          refine z_iconst (x := 0) (pc' := 69) dX11_person_68 (by decide) rfl ?_
          exact z_dr (ls' := [some (.ref q0), some (.int x1), some (.int x2), some (.int x3), some (.int x4), some (.int x5), some (.int x6), some (.int x7), none, none]) ⟨rfl, rfl, rfl, rfl, rfl, rfl, rfl, rfl, trivial⟩ h
        · have h := h.2 hc
          refine z_iload (pc' := 58) dX11_person_56 rfl rfl ?_
          obtain ⟨d1, b1, Qz, hm, hdd, hb, hkx, hk⟩ := h
          refine z_callS (Y := mX11_isFace) (n := 1) (as := [.int x7]) (st := []) (pc' := 61) hm dX11_person_58 kX11_119 sX11_isFace rfl rfl hdd hb (Nat.le_of_ble_eq_true rfl) (fun r G16 hz => ?_) hkx
          obtain ⟨y15, rfl, h⟩ := hk r G16 hz
          refine z_if_eq (pt := 68) (pc' := 64) dX11_person_61 (by decide) rfl (fun hc => ?_) (fun hc => ?_)
          · have h := h.1 hc
            refine z_iconst (x := 0) (pc' := 69) dX11_person_68 (by decide) rfl ?_
            exact z_dr (ls' := [some (.ref q0), some (.int x1), some (.int x2), some (.int x3), some (.int x4), some (.int x5), some (.int x6), some (.int x7), none, none]) ⟨rfl, rfl, rfl, rfl, rfl, rfl, rfl, rfl, trivial⟩ h
          · have h := h.2 hc
            refine z_iconst (x := 1) (pc' := 65) dX11_person_64 (by decide) rfl ?_
            refine z_goto (pc' := 69) dX11_person_65 (by decide) ?_
            exact z_dr (ls' := [some (.ref q0), some (.int x1), some (.int x2), some (.int x3), some (.int x4), some (.int x5), some (.int x6), some (.int x7), none, none]) ⟨rfl, rfl, rfl, rfl, rfl, rfl, rfl, rfl, trivial⟩ h
def wp_X11_person_69 (E : ZE) (l : Launch) (d b : Nat) (G0 : ZG) (Q : ZQ) (k : Nat) (q0 : Nat) (x1 : Int32) (x2 : Int32) (x3 : Int32) (x4 : Int32) (x5 : Int32) (x6 : Int32) (x7 : Int32) (s0 : Int32) (G : ZG) : Prop :=
  xcV E l mX11_demand d [.int s0] G k (fun X G9 => Q (.inr X) G9) (fun G1 k2 =>
  zob G1 q0 12 ∧
  zob G1 (zrv G1 q0 5) 8 ∧
  zob G1 (zrv G1 (zrv G1 q0 5) 0) 0 ∧
  xcI E l mJx4a65c_size_8abf5 d [.ref (zrv G1 (zrv G1 q0 5) 0)] G1 k2 (fun X G9 => Q (.inr X) G9) (fun y3 G4 k5 =>
  ((y3 < 80 →
    ¬ (5 : Int32) < 0 ∧ (5 : Int32).toNatClampNeg ≤ 67108864 ∧ (5 : Int32).toNatClampNeg + 1 ≤ k5 ∧ ∃ t6, 1024 ≤ t6 ∧ t6 < 3584 ∧ (t6 - 1024) / 512 = 0 ∧
    ∀ q_7, q_7 = zp t6 (zcn G4 t6) → ∀ G8, G8 = znw G4 t6 (5 : Int32).toNatClampNeg → ∀ k9, k9 = k5 - ((5 : Int32).toNatClampNeg + 1) →
    zar G8 q_7 0 ∧ vp_in 0 (zln G8 q_7) ∧
    ∀ G10, G10 = zsi G8 q_7 (0 : Int32).toNatClampNeg x3 →
    zar G10 q_7 0 ∧ vp_in 1 (zln G10 q_7) ∧
    ∀ G11, G11 = zsi G10 q_7 (1 : Int32).toNatClampNeg x4 →
    zar G11 q_7 0 ∧ vp_in 2 (zln G11 q_7) ∧
    ∀ G12, G12 = zsi G11 q_7 (2 : Int32).toNatClampNeg x5 →
    zar G12 q_7 0 ∧ vp_in 3 (zln G12 q_7) ∧
    ∀ G13, G13 = zsi G12 q_7 (3 : Int32).toNatClampNeg x6 →
    zar G13 q_7 0 ∧ vp_in 4 (zln G13 q_7) ∧
    ∀ G14, G14 = zsi G13 q_7 (4 : Int32).toNatClampNeg x7 →
    7 ≤ k9 ∧ ∃ t15, t15 ≠ 0 ∧ t15 < 448 ∧ t15 / 32 = 9 ∧
    ∀ q_16, q_16 = zp t15 (zcn G14 t15) → ∀ G17, G17 = znw G14 t15 0 → ∀ k18, k18 = k9 - 7 →
    zob G17 q0 12 ∧
    zob G17 (zrv G17 q0 5) 8 ∧
    zob G17 (zrv G17 (zrv G17 q0 5) 0) 0 ∧
    xcI E l mJx4a65c_size_8abf5 d [.ref (zrv G17 (zrv G17 q0 5) 0)] G17 k18 (fun X G9 => Q (.inr X) G9) (fun y19 G20 k21 =>
    zal G20 q_16 ∧
    xcV E l mX8_init d [.ref q_16, .int y19, .int x1, .int x2, .ref q_7] G20 k21 (fun X G9 => Q (.inr X) G9) (fun G22 k23 =>
    zob G22 q0 12 ∧
    zob G22 (zrv G22 q0 5) 8 ∧
    zob G22 (zrv G22 (zrv G22 q0 5) 0) 0 ∧
    xcI E l mJx4a65c_add_9ea2d d [.ref (zrv G22 (zrv G22 q0 5) 0), .ref q_16] G22 k23 (fun X G9 => Q (.inr X) G9) (fun y24 G25 k26 =>
    zob G25 q_16 9 ∧
    Q (.inl (some (.int (ziv G25 q_16 0)))) G25)))) ∧
  (¬ (y3 < 80) →
    7 ≤ k5 ∧ 6 ≤ d ∧ Q (.inr "java/lang/UnsupportedOperationException") G4))))
theorem wpt_X11_person_69 {E : ZE} {l : Launch} {d b : Nat} {G0 : ZG} {Q : ZQ} {k : Nat} {q0 : Nat} {x1 : Int32} {x2 : Int32} {x3 : Int32} {x4 : Int32} {x5 : Int32} {x6 : Int32} {x7 : Int32} {s0 : Int32} {G : ZG} (htr : l.stackTraces = false) (h : wp_X11_person_69 E l d b G0 Q k q0 x1 x2 x3 x4 x5 x6 x7 s0 G) : zW E l mX11_person d b G0 Q k 69 [some (.ref q0), some (.int x1), some (.int x2), some (.int x3), some (.int x4), some (.int x5), some (.int x6), some (.int x7), none, none] [.int s0] G := by
  unfold wp_X11_person_69 at h
  obtain ⟨d1, b1, Qz, hm, hdd, hb, hkx, hk⟩ := h
  refine z_callS (Y := mX11_demand) (n := 1) (as := [.int s0]) (st := []) (pc' := 72) hm dX11_person_69 kX11_86 sX11_demand rfl rfl hdd hb (Nat.le_of_ble_eq_true rfl) (fun r G1 hz => ?_) hkx
  obtain ⟨rfl, h⟩ := hk r G1 hz
  refine z_aload_n (pc' := 73) dX11_person_72 rfl rfl ?_
  obtain ⟨h1, h⟩ := h
  refine z_getR (ci := 12) (kf := 5) (pc' := 76) dX11_person_73 kX11_39 (Or.inl rfl) (by decide) (by decide) rfl rfl h1 ?_
  obtain ⟨h1, h⟩ := h
  refine z_getR (ci := 8) (kf := 0) (pc' := 79) dX11_person_76 kX11_123 (Or.inl rfl) (by decide) (by decide) rfl rfl h1 ?_
  obtain ⟨h1, h⟩ := h
  obtain ⟨d1, b1, Qz, hm, hdd, hb, hkx, hk⟩ := h
  refine z_callV (Y := mJx4a65c_size_8abf5) (n := 0) (as := []) (st := []) (pc' := 82) (ci := 0) (q := (zrv G1 (zrv G1 q0 5) 0)) hm dX11_person_79 kX11_97 vJx4a65c_size_8abf5 rfl rfl (by decide) rfl h1 hdd hb (Nat.le_of_ble_eq_true rfl) (fun r G4 hz => ?_) hkx
  obtain ⟨y3, rfl, h⟩ := hk r G4 hz
  refine z_bipush (x := 80) (pc' := 84) dX11_person_82 (by decide) rfl ?_
  refine z_icmp_lt (pt := 95) (pc' := 87) dX11_person_84 (by decide) rfl (fun hc => ?_) (fun hc => ?_)
  · have h := h.1 hc
    refine z_iconst (x := 5) (pc' := 96) dX11_person_95 (by decide) rfl ?_
    obtain ⟨h1, h2, h3, t6, h4, h5, h6, h⟩ := h
    obtain ⟨q_7, hq⟩ : ∃ z, z = zp t6 (zcn G4 t6) := ⟨_, rfl⟩
    obtain ⟨G8, hG⟩ : ∃ z, z = znw G4 t6 (5 : Int32).toNatClampNeg := ⟨_, rfl⟩
    have h := h _ hq _ hG _ rfl
    refine z_newa (t := t6) (kd := 0) (pc' := 98) dX11_person_96 rfl (by decide) a_int rfl h4 h5 h6 h1 rfl h2 h3 ?_
    refine z_mk hq hG ?_
    refine z_dup (pc' := 99) dX11_person_98 rfl rfl ?_
    refine z_iconst (x := 0) (pc' := 100) dX11_person_99 (by decide) rfl ?_
    refine z_iload_n (pc' := 101) dX11_person_100 rfl rfl ?_
    obtain ⟨h1, h2, h⟩ := h
    obtain ⟨G10, hG⟩ : ∃ z, z = zsi G8 q_7 (0 : Int32).toNatClampNeg x3 := ⟨_, rfl⟩
    have h := h _ hG
    refine z_iast (pc' := 102) dX11_person_101 rfl h1 h2  ?_
    refine z_st hG ?_
    refine z_dup (pc' := 103) dX11_person_102 rfl rfl ?_
    refine z_iconst (x := 1) (pc' := 104) dX11_person_103 (by decide) rfl ?_
    refine z_iload (pc' := 106) dX11_person_104 rfl rfl ?_
    obtain ⟨h1, h2, h⟩ := h
    obtain ⟨G11, hG⟩ : ∃ z, z = zsi G10 q_7 (1 : Int32).toNatClampNeg x4 := ⟨_, rfl⟩
    have h := h _ hG
    refine z_iast (pc' := 107) dX11_person_106 rfl h1 h2  ?_
    refine z_st hG ?_
    refine z_dup (pc' := 108) dX11_person_107 rfl rfl ?_
    refine z_iconst (x := 2) (pc' := 109) dX11_person_108 (by decide) rfl ?_
    refine z_iload (pc' := 111) dX11_person_109 rfl rfl ?_
    obtain ⟨h1, h2, h⟩ := h
    obtain ⟨G12, hG⟩ : ∃ z, z = zsi G11 q_7 (2 : Int32).toNatClampNeg x5 := ⟨_, rfl⟩
    have h := h _ hG
    refine z_iast (pc' := 112) dX11_person_111 rfl h1 h2  ?_
    refine z_st hG ?_
    refine z_dup (pc' := 113) dX11_person_112 rfl rfl ?_
    refine z_iconst (x := 3) (pc' := 114) dX11_person_113 (by decide) rfl ?_
    refine z_iload (pc' := 116) dX11_person_114 rfl rfl ?_
    obtain ⟨h1, h2, h⟩ := h
    obtain ⟨G13, hG⟩ : ∃ z, z = zsi G12 q_7 (3 : Int32).toNatClampNeg x6 := ⟨_, rfl⟩
    have h := h _ hG
    refine z_iast (pc' := 117) dX11_person_116 rfl h1 h2  ?_
    refine z_st hG ?_
    refine z_dup (pc' := 118) dX11_person_117 rfl rfl ?_
    refine z_iconst (x := 4) (pc' := 119) dX11_person_118 (by decide) rfl ?_
    refine z_iload (pc' := 121) dX11_person_119 rfl rfl ?_
    obtain ⟨h1, h2, h⟩ := h
    obtain ⟨G14, hG⟩ : ∃ z, z = zsi G13 q_7 (4 : Int32).toNatClampNeg x7 := ⟨_, rfl⟩
    have h := h _ hG
    refine z_iast (pc' := 122) dX11_person_121 rfl h1 h2  ?_
    refine z_st hG ?_
    refine z_astore (pc' := 124) dX11_person_122 (by decide) rfl ?_
    obtain ⟨h1, t15, h2, h3, h4, h⟩ := h
    obtain ⟨q_16, hq⟩ : ∃ z, z = zp t15 (zcn G14 t15) := ⟨_, rfl⟩
    obtain ⟨G17, hG⟩ : ∃ z, z = znw G14 t15 0 := ⟨_, rfl⟩
    have h := h _ hq _ hG _ rfl
    refine z_new (ci := 9) (t := t15) (pc' := 127) dX11_person_124 kX11_126 n9_inst n9_ini (by decide) rfl h2 h3 h4 h1 (z_df (by decide)) ?_
    refine z_mk hq hG ?_
    refine z_dup (pc' := 128) dX11_person_127 rfl rfl ?_
    refine z_aload_n (pc' := 129) dX11_person_128 rfl rfl ?_
    obtain ⟨h1, h⟩ := h
    refine z_getR (ci := 12) (kf := 5) (pc' := 132) dX11_person_129 kX11_39 (Or.inl rfl) (by decide) (by decide) rfl rfl h1 ?_
    obtain ⟨h1, h⟩ := h
    refine z_getR (ci := 8) (kf := 0) (pc' := 135) dX11_person_132 kX11_123 (Or.inl rfl) (by decide) (by decide) rfl rfl h1 ?_
    obtain ⟨h1, h⟩ := h
    obtain ⟨d1, b1, Qz, hm, hdd, hb, hkx, hk⟩ := h
    refine z_callV (Y := mJx4a65c_size_8abf5) (n := 0) (as := []) (st := [.ref q_16, .ref q_16]) (pc' := 138) (ci := 0) (q := (zrv G17 (zrv G17 q0 5) 0)) hm dX11_person_135 kX11_97 vJx4a65c_size_8abf5 rfl rfl (by decide) rfl h1 hdd hb (Nat.le_of_ble_eq_true rfl) (fun r G20 hz => ?_) hkx
    obtain ⟨y19, rfl, h⟩ := hk r G20 hz
    refine z_iload_n (pc' := 139) dX11_person_138 rfl rfl ?_
    refine z_iload_n (pc' := 140) dX11_person_139 rfl rfl ?_
    refine z_aload (pc' := 142) dX11_person_140 rfl rfl ?_
    obtain ⟨h1, h⟩ := h
    obtain ⟨d1, b1, Qz, hm, hdd, hb, hkx, hk⟩ := h
    refine z_callI (Y := mX8_init) (n := 4) (as := [.int y19, .int x1, .int x2, .ref q_7]) (st := [.ref q_16]) (pc' := 145) (q := q_16) hm dX11_person_142 kX11_128 iX8_init rfl rfl h1 hdd hb (Nat.le_of_ble_eq_true rfl) (fun r G22 hz => ?_) hkx
    obtain ⟨rfl, h⟩ := hk r G22 hz
    refine z_astore (pc' := 147) dX11_person_145 (by decide) rfl ?_
    refine z_aload_n (pc' := 148) dX11_person_147 rfl rfl ?_
    obtain ⟨h1, h⟩ := h
    refine z_getR (ci := 12) (kf := 5) (pc' := 151) dX11_person_148 kX11_39 (Or.inl rfl) (by decide) (by decide) rfl rfl h1 ?_
    obtain ⟨h1, h⟩ := h
    refine z_getR (ci := 8) (kf := 0) (pc' := 154) dX11_person_151 kX11_123 (Or.inl rfl) (by decide) (by decide) rfl rfl h1 ?_
    refine z_aload (pc' := 156) dX11_person_154 rfl rfl ?_
    obtain ⟨h1, h⟩ := h
    obtain ⟨d1, b1, Qz, hm, hdd, hb, hkx, hk⟩ := h
    refine z_callV (Y := mJx4a65c_add_9ea2d) (n := 1) (as := [.ref q_16]) (st := []) (pc' := 159) (ci := 0) (q := (zrv G22 (zrv G22 q0 5) 0)) hm dX11_person_156 kX11_104 vJx4a65c_add_9ea2d rfl rfl (by decide) rfl h1 hdd hb (Nat.le_of_ble_eq_true rfl) (fun r G25 hz => ?_) hkx
    obtain ⟨y24, rfl, h⟩ := hk r G25 hz
    refine z_pop (pc' := 160) dX11_person_159 rfl rfl ?_
    refine z_aload (pc' := 162) dX11_person_160 rfl rfl ?_
    obtain ⟨h1, h⟩ := h
    refine z_getI (ci := 9) (kf := 0) (pc' := 165) dX11_person_162 kX11_131 (Or.inl rfl) (by decide) (by decide) rfl rfl h1 ?_
    exact z_iret dX11_person_165 rfl h
  · have h := h.2 hc
    exact z_throw (names := ["java/lang/RuntimeException", "java/lang/Exception"]) htr dX11_person_87 dX11_person_90 dX11_person_91 dX11_person_94 rfl (by decide) kX11_101 x_UnsupportedOperationException h.2.1 (by decide) (Nat.le_of_ble_eq_true rfl) h.1 tX11_103 h.2.2
def wp_X11_personAt_0 (E : ZE) (l : Launch) (d b : Nat) (G0 : ZG) (Q : ZQ) (k : Nat) (q0 : Nat) (x1 : Int32) (G : ZG) : Prop :=
  ((x1 < 0 →
    7 ≤ k ∧ 6 ≤ d ∧ Q (.inr "java/lang/IndexOutOfBoundsException") G) ∧
  (¬ (x1 < 0) →
    zob G q0 12 ∧
    zob G (zrv G q0 5) 8 ∧
    zob G (zrv G (zrv G q0 5) 0) 0 ∧
    xcI E l mJx4a65c_size_8abf5 d [.ref (zrv G (zrv G q0 5) 0)] G k (fun X G9 => Q (.inr X) G9) (fun y1 G2 k3 =>
    ((x1 < y1 →
      zob G2 q0 12 ∧
      zob G2 (zrv G2 q0 5) 8 ∧
      zob G2 (zrv G2 (zrv G2 q0 5) 0) 0 ∧
      xcR E l mJx4a65c_get_915e3 d [.ref (zrv G2 (zrv G2 q0 5) 0), .int x1] G2 k3 (fun X G9 => Q (.inr X) G9) (fun y4 G5 k6 =>
      zob G5 y4 9 ∧
      Q (.inl (some (.ref y4))) G5)) ∧
    (¬ (x1 < y1) →
      7 ≤ k3 ∧ 6 ≤ d ∧ Q (.inr "java/lang/IndexOutOfBoundsException") G2)))))
theorem wpt_X11_personAt_0 {E : ZE} {l : Launch} {d b : Nat} {G0 : ZG} {Q : ZQ} {k : Nat} {q0 : Nat} {x1 : Int32} {G : ZG} (htr : l.stackTraces = false) (h : wp_X11_personAt_0 E l d b G0 Q k q0 x1 G) : zW E l mX11_personAt d b G0 Q k 0 [some (.ref q0), some (.int x1)] [] G := by
  unfold wp_X11_personAt_0 at h
  refine z_iload_n (pc' := 1) dX11_personAt_0 rfl rfl ?_
  refine z_if_lt (pt := 18) (pc' := 4) dX11_personAt_1 (by decide) rfl (fun hc => ?_) (fun hc => ?_)
  · have h := h.1 hc
    exact z_throw (names := ["java/lang/RuntimeException", "java/lang/Exception"]) htr dX11_personAt_18 dX11_personAt_21 dX11_personAt_22 dX11_personAt_25 rfl (by decide) kX11_357 x_IndexOutOfBoundsException h.2.1 (by decide) (Nat.le_of_ble_eq_true rfl) h.1 tX11_359 h.2.2
  · have h := h.2 hc
    refine z_iload_n (pc' := 5) dX11_personAt_4 rfl rfl ?_
    refine z_aload_n (pc' := 6) dX11_personAt_5 rfl rfl ?_
    obtain ⟨h1, h⟩ := h
    refine z_getR (ci := 12) (kf := 5) (pc' := 9) dX11_personAt_6 kX11_39 (Or.inl rfl) (by decide) (by decide) rfl rfl h1 ?_
    obtain ⟨h1, h⟩ := h
    refine z_getR (ci := 8) (kf := 0) (pc' := 12) dX11_personAt_9 kX11_123 (Or.inl rfl) (by decide) (by decide) rfl rfl h1 ?_
    obtain ⟨h1, h⟩ := h
    obtain ⟨d1, b1, Qz, hm, hdd, hb, hkx, hk⟩ := h
    refine z_callV (Y := mJx4a65c_size_8abf5) (n := 0) (as := []) (st := [.int x1]) (pc' := 15) (ci := 0) (q := (zrv G (zrv G q0 5) 0)) hm dX11_personAt_12 kX11_97 vJx4a65c_size_8abf5 rfl rfl (by decide) rfl h1 hdd hb (Nat.le_of_ble_eq_true rfl) (fun r G2 hz => ?_) hkx
    obtain ⟨y1, rfl, h⟩ := hk r G2 hz
    refine z_icmp_lt (pt := 26) (pc' := 18) dX11_personAt_15 (by decide) rfl (fun hc => ?_) (fun hc => ?_)
    · have h := h.1 hc
      refine z_aload_n (pc' := 27) dX11_personAt_26 rfl rfl ?_
      obtain ⟨h1, h⟩ := h
      refine z_getR (ci := 12) (kf := 5) (pc' := 30) dX11_personAt_27 kX11_39 (Or.inl rfl) (by decide) (by decide) rfl rfl h1 ?_
      obtain ⟨h1, h⟩ := h
      refine z_getR (ci := 8) (kf := 0) (pc' := 33) dX11_personAt_30 kX11_123 (Or.inl rfl) (by decide) (by decide) rfl rfl h1 ?_
      refine z_iload_n (pc' := 34) dX11_personAt_33 rfl rfl ?_
      obtain ⟨h1, h⟩ := h
      obtain ⟨d1, b1, Qz, hm, hdd, hb, hkx, hk⟩ := h
      refine z_callV (Y := mJx4a65c_get_915e3) (n := 1) (as := [.int x1]) (st := []) (pc' := 37) (ci := 0) (q := (zrv G2 (zrv G2 q0 5) 0)) hm dX11_personAt_34 kX11_111 vJx4a65c_get_915e3 rfl rfl (by decide) rfl h1 hdd hb (Nat.le_of_ble_eq_true rfl) (fun r G5 hz => ?_) hkx
      obtain ⟨y4, rfl, h⟩ := hk r G5 hz
      obtain ⟨h1, h⟩ := h
      refine z_castO (ci := 9) (pc' := 40) dX11_personAt_37 kX11_126 (by decide) rfl h1 ?_
      exact z_aret dX11_personAt_40 rfl (Or.inl ⟨_, rfl⟩) h
    · have h := h.2 hc
      exact z_throw (names := ["java/lang/RuntimeException", "java/lang/Exception"]) htr dX11_personAt_18 dX11_personAt_21 dX11_personAt_22 dX11_personAt_25 rfl (by decide) kX11_357 x_IndexOutOfBoundsException h.2.1 (by decide) (Nat.le_of_ble_eq_true rfl) h.1 tX11_359 h.2.2
def wp_X11_putBytes_0 (E : ZE) (l : Launch) (d b : Nat) (G0 : ZG) (Q : ZQ) (k : Nat) (q0 : Nat) (x1 : Int32) (G : ZG) : Prop :=
  zW E l mX11_putBytes d b G0 Q k 3 [some (.ref q0), some (.int x1), some (.int 24)] [] G
theorem wpt_X11_putBytes_0 {E : ZE} {l : Launch} {d b : Nat} {G0 : ZG} {Q : ZQ} {k : Nat} {q0 : Nat} {x1 : Int32} {G : ZG} (h : wp_X11_putBytes_0 E l d b G0 Q k q0 x1 G) : zW E l mX11_putBytes d b G0 Q k 0 [some (.ref q0), some (.int x1), none] [] G := by
  unfold wp_X11_putBytes_0 at h
  refine z_bipush (x := 24) (pc' := 2) dX11_putBytes_0 (by decide) rfl ?_
  refine z_istore_n (pc' := 3) dX11_putBytes_2 (by decide) rfl ?_
  exact z_dr (ls' := [some (.ref q0), some (.int x1), some (.int 24)]) ⟨rfl, rfl, rfl, trivial⟩ h
def wp_X11_putBytes_3 (E : ZE) (l : Launch) (d b : Nat) (G0 : ZG) (Q : ZQ) (k : Nat) (q0 : Nat) (x1 : Int32) (x2 : Int32) (G : ZG) : Prop :=
  ((x2 < 0 →
    Q (.inl none) G) ∧
  (¬ (x2 < 0) →
    zob G q0 12 ∧
    ((400 ≤ (ziv G q0 1) →
      Q (.inl none) G) ∧
    (¬ (400 ≤ (ziv G q0 1)) →
      zob G q0 12 ∧
      zob G q0 12 ∧
      zar G (zrv G q0 0) 0 ∧ vp_in (ziv G q0 1) (zln G (zrv G q0 0)) ∧
      ∀ G1, G1 = zsi G (zrv G q0 0) (ziv G q0 1).toNatClampNeg (((x1.toUInt32 >>> (x2.toUInt32 &&& Int32.toUInt32 31)).toInt32) &&& 255) →
      zob G1 q0 12 ∧
      zob G1 q0 12 ∧
      ∀ G2, G2 = zsi G1 q0 1 ((ziv G1 q0 1) + 1) →
      zW E l mX11_putBytes d b G0 Q k 3 [some (.ref q0), some (.int x1), some (.int (x2 + (-8)))] [] G2))))
theorem wpt_X11_putBytes_3 {E : ZE} {l : Launch} {d b : Nat} {G0 : ZG} {Q : ZQ} {k : Nat} {q0 : Nat} {x1 : Int32} {x2 : Int32} {G : ZG} (h : wp_X11_putBytes_3 E l d b G0 Q k q0 x1 x2 G) : zW E l mX11_putBytes d b G0 Q k 3 [some (.ref q0), some (.int x1), some (.int x2)] [] G := by
  unfold wp_X11_putBytes_3 at h
  refine z_iload_n (pc' := 4) dX11_putBytes_3 rfl rfl ?_
  refine z_if_lt (pt := 49) (pc' := 7) dX11_putBytes_4 (by decide) rfl (fun hc => ?_) (fun hc => ?_)
  · have h := h.1 hc
    exact z_vret dX11_putBytes_49 rfl h
  · have h := h.2 hc
    refine z_aload_n (pc' := 8) dX11_putBytes_7 rfl rfl ?_
    obtain ⟨h1, h⟩ := h
    refine z_getI (ci := 12) (kf := 1) (pc' := 11) dX11_putBytes_8 kX11_13 (Or.inl rfl) (by decide) (by decide) rfl rfl h1 ?_
    refine z_sipush (x := 400) (pc' := 14) dX11_putBytes_11 (by decide) rfl ?_
    refine z_icmp_ge (pt := 49) (pc' := 17) dX11_putBytes_14 (by decide) rfl (fun hc => ?_) (fun hc => ?_)
    · have h := h.1 hc
      exact z_vret dX11_putBytes_49 rfl h
    · have h := h.2 hc
      refine z_aload_n (pc' := 18) dX11_putBytes_17 rfl rfl ?_
      obtain ⟨h1, h⟩ := h
      refine z_getR (ci := 12) (kf := 0) (pc' := 21) dX11_putBytes_18 kX11_9 (Or.inl rfl) (by decide) (by decide) rfl rfl h1 ?_
      refine z_aload_n (pc' := 22) dX11_putBytes_21 rfl rfl ?_
      obtain ⟨h1, h⟩ := h
      refine z_getI (ci := 12) (kf := 1) (pc' := 25) dX11_putBytes_22 kX11_13 (Or.inl rfl) (by decide) (by decide) rfl rfl h1 ?_
      refine z_iload_n (pc' := 26) dX11_putBytes_25 rfl rfl ?_
      refine z_iload_n (pc' := 27) dX11_putBytes_26 rfl rfl ?_
      refine z_iushr (pc' := 28) dX11_putBytes_27 rfl rfl ?_
      refine z_sipush (x := 255) (pc' := 31) dX11_putBytes_28 (by decide) rfl ?_
      refine z_iand (pc' := 32) dX11_putBytes_31 rfl rfl ?_
      obtain ⟨h1, h2, h⟩ := h
      obtain ⟨G1, hG⟩ : ∃ z, z = zsi G (zrv G q0 0) (ziv G q0 1).toNatClampNeg (((x1.toUInt32 >>> (x2.toUInt32 &&& Int32.toUInt32 31)).toInt32) &&& 255) := ⟨_, rfl⟩
      have h := h _ hG
      refine z_iast (pc' := 33) dX11_putBytes_32 rfl h1 h2  ?_
      refine z_st hG ?_
      refine z_aload_n (pc' := 34) dX11_putBytes_33 rfl rfl ?_
      refine z_dup (pc' := 35) dX11_putBytes_34 rfl rfl ?_
      obtain ⟨h1, h⟩ := h
      refine z_getI (ci := 12) (kf := 1) (pc' := 38) dX11_putBytes_35 kX11_13 (Or.inl rfl) (by decide) (by decide) rfl rfl h1 ?_
      refine z_iconst (x := 1) (pc' := 39) dX11_putBytes_38 (by decide) rfl ?_
      refine z_iadd (pc' := 40) dX11_putBytes_39 rfl rfl ?_
      obtain ⟨h1, h⟩ := h
      obtain ⟨G2, hG⟩ : ∃ z, z = zsi G1 q0 1 ((ziv G1 q0 1) + 1) := ⟨_, rfl⟩
      have h := h _ hG
      refine z_putI (ci := 12) (kf := 1) (pc' := 43) dX11_putBytes_40 kX11_13 (Or.inl rfl) (by decide) (by decide) rfl (Or.inl rfl) rfl h1 (zok_int _) ?_
      refine z_st hG ?_
      refine z_iinc (y := x2 + (-8)) (pc' := 46) dX11_putBytes_43 rfl (zinc_m8 _) (by decide) rfl ?_
      refine z_goto (pc' := 3) dX11_putBytes_46 (by decide) ?_
      exact z_dr (ls' := [some (.ref q0), some (.int x1), some (.int (x2 + (-8)))]) ⟨rfl, rfl, rfl, trivial⟩ h
def wp_X11_queue_0 (E : ZE) (l : Launch) (d b : Nat) (G0 : ZG) (Q : ZQ) (k : Nat) (q0 : Nat) (x1 : Int32) (G : ZG) : Prop :=
  xcV E l mX11_checkDesk d [.int x1] G k (fun X G9 => Q (.inr X) G9) (fun G1 k2 =>
  zob G1 q0 12 ∧
  (zar G1 (zp 3602 0) 0 ∨ zrd G1 (zp 3602 0) .int) ∧ vp_in x1 (zln G1 (zp 3602 0)) ∧
  zob G1 (zrv G1 q0 8) 7 ∧
  xcI E l mX6_countIn d [.ref (zrv G1 q0 8), .int (ziv G1 (zp 3602 0) x1.toNatClampNeg)] G1 k2 (fun X G9 => Q (.inr X) G9) (fun y3 G4 k5 =>
  Q (.inl (some (.int y3))) G4))
theorem wpt_X11_queue_0 {E : ZE} {l : Launch} {d b : Nat} {G0 : ZG} {Q : ZQ} {k : Nat} {q0 : Nat} {x1 : Int32} {G : ZG} (h : wp_X11_queue_0 E l d b G0 Q k q0 x1 G) : zW E l mX11_queue d b G0 Q k 0 [some (.ref q0), some (.int x1)] [] G := by
  unfold wp_X11_queue_0 at h
  refine z_iload_n (pc' := 1) dX11_queue_0 rfl rfl ?_
  obtain ⟨d1, b1, Qz, hm, hdd, hb, hkx, hk⟩ := h
  refine z_callS (Y := mX11_checkDesk) (n := 1) (as := [.int x1]) (st := []) (pc' := 4) hm dX11_queue_1 kX11_291 sX11_checkDesk rfl rfl hdd hb (Nat.le_of_ble_eq_true rfl) (fun r G1 hz => ?_) hkx
  obtain ⟨rfl, h⟩ := hk r G1 hz
  refine z_aload_n (pc' := 5) dX11_queue_4 rfl rfl ?_
  obtain ⟨h1, h⟩ := h
  refine z_getR (ci := 12) (kf := 8) (pc' := 8) dX11_queue_5 kX11_62 (Or.inl rfl) (by decide) (by decide) rfl rfl h1 ?_
  refine z_gets (x := ("PassportOffice$Desks", "STATE_AT", "[I", zp 3602 0)) (pc' := 11) (by simp [zstat]) dX11_queue_8 kX11_342 rfl (by unfold zfx; decide) (by decide) ?_
  refine z_iload_n (pc' := 12) dX11_queue_11 rfl rfl ?_
  obtain ⟨h1, h2, h⟩ := h
  refine z_iald (pc' := 13) dX11_queue_12 rfl h1 h2 ?_
  obtain ⟨h1, h⟩ := h
  obtain ⟨d1, b1, Qz, hm, hdd, hb, hkx, hk⟩ := h
  refine z_callV (Y := mX6_countIn) (n := 1) (as := [.int (ziv G1 (zp 3602 0) x1.toNatClampNeg)]) (st := []) (pc' := 16) (ci := 7) (q := (zrv G1 q0 8)) hm dX11_queue_13 kX11_345 vX6_countIn rfl rfl (by decide) rfl h1 hdd hb (Nat.le_of_ble_eq_true rfl) (fun r G4 hz => ?_) hkx
  obtain ⟨y3, rfl, h⟩ := hk r G4 hz
  exact z_iret dX11_queue_16 rfl h
def wp_X11_refuse_0 (E : ZE) (l : Launch) (d b : Nat) (G0 : ZG) (Q : ZQ) (k : Nat) (q0 : Nat) (x1 : Int32) (G : ZG) : Prop :=
  zob G q0 12 ∧
  xcR E l mX11_askingAt d [.ref q0, .int x1] G k (fun X G9 => Q (.inr X) G9) (fun y1 G2 k3 =>
  zob G2 y1 1 ∧
  xcI E l mX0_isOpen d [.ref y1] G2 k3 (fun X G9 => Q (.inr X) G9) (fun y4 G5 k6 =>
  xcV E l mX11_allow d [.int y4] G5 k6 (fun X G9 => Q (.inr X) G9) (fun G7 k8 =>
  zob G7 y1 1 ∧
  ∀ G9, G9 = zsi G7 y1 7 9 →
  Q (.inl none) G9)))
theorem wpt_X11_refuse_0 {E : ZE} {l : Launch} {d b : Nat} {G0 : ZG} {Q : ZQ} {k : Nat} {q0 : Nat} {x1 : Int32} {G : ZG} (h : wp_X11_refuse_0 E l d b G0 Q k q0 x1 G) : zW E l mX11_refuse d b G0 Q k 0 [some (.ref q0), some (.int x1), none] [] G := by
  unfold wp_X11_refuse_0 at h
  refine z_aload_n (pc' := 1) dX11_refuse_0 rfl rfl ?_
  refine z_iload_n (pc' := 2) dX11_refuse_1 rfl rfl ?_
  obtain ⟨h1, h⟩ := h
  obtain ⟨d1, b1, Qz, hm, hdd, hb, hkx, hk⟩ := h
  refine z_callV (Y := mX11_askingAt) (n := 1) (as := [.int x1]) (st := []) (pc' := 5) (ci := 12) (q := q0) hm dX11_refuse_2 kX11_236 vX11_askingAt rfl rfl (by decide) rfl h1 hdd hb (Nat.le_of_ble_eq_true rfl) (fun r G2 hz => ?_) hkx
  obtain ⟨y1, rfl, h⟩ := hk r G2 hz
  refine z_astore_n (pc' := 6) dX11_refuse_5 (by decide) rfl ?_
  refine z_aload_n (pc' := 7) dX11_refuse_6 rfl rfl ?_
  obtain ⟨h1, h⟩ := h
  obtain ⟨d1, b1, Qz, hm, hdd, hb, hkx, hk⟩ := h
  refine z_callV (Y := mX0_isOpen) (n := 0) (as := []) (st := []) (pc' := 10) (ci := 1) (q := y1) hm dX11_refuse_7 kX11_249 vX0_isOpen rfl rfl (by decide) rfl h1 hdd hb (Nat.le_of_ble_eq_true rfl) (fun r G5 hz => ?_) hkx
  obtain ⟨y4, rfl, h⟩ := hk r G5 hz
  obtain ⟨d1, b1, Qz, hm, hdd, hb, hkx, hk⟩ := h
  refine z_callS (Y := mX11_allow) (n := 1) (as := [.int y4]) (st := []) (pc' := 13) hm dX11_refuse_10 kX11_243 sX11_allow rfl rfl hdd hb (Nat.le_of_ble_eq_true rfl) (fun r G7 hz => ?_) hkx
  obtain ⟨rfl, h⟩ := hk r G7 hz
  refine z_aload_n (pc' := 14) dX11_refuse_13 rfl rfl ?_
  refine z_bipush (x := 9) (pc' := 16) dX11_refuse_14 (by decide) rfl ?_
  obtain ⟨h1, h⟩ := h
  obtain ⟨G9, hG⟩ : ∃ z, z = zsi G7 y1 7 9 := ⟨_, rfl⟩
  have h := h _ hG
  refine z_putI (ci := 1) (kf := 7) (pc' := 19) dX11_refuse_16 kX11_240 (Or.inl rfl) (by decide) (by decide) rfl (Or.inl rfl) rfl h1 (zok_int _) ?_
  refine z_st hG ?_
  exact z_vret dX11_refuse_19 rfl h
def wp_X11_rules_0 (E : ZE) (l : Launch) (d b : Nat) (G0 : ZG) (Q : ZQ) (k : Nat) (q0 : Nat) (x1 : Int32) (x2 : Int32) (x3 : Int32) (x4 : Int32) (x5 : Int32) (G : ZG) : Prop :=
  ((x1 < 1 →
    zW E l mX11_rules d b G0 Q k 17 [some (.ref q0), some (.int x1), some (.int x2), some (.int x3), some (.int x4), some (.int x5)] [.int 0] G) ∧
  (¬ (x1 < 1) →
    ((200 < x1 →
      zW E l mX11_rules d b G0 Q k 17 [some (.ref q0), some (.int x1), some (.int x2), some (.int x3), some (.int x4), some (.int x5)] [.int 0] G) ∧
    (¬ (200 < x1) →
      zW E l mX11_rules d b G0 Q k 17 [some (.ref q0), some (.int x1), some (.int x2), some (.int x3), some (.int x4), some (.int x5)] [.int 1] G))))
theorem wpt_X11_rules_0 {E : ZE} {l : Launch} {d b : Nat} {G0 : ZG} {Q : ZQ} {k : Nat} {q0 : Nat} {x1 : Int32} {x2 : Int32} {x3 : Int32} {x4 : Int32} {x5 : Int32} {G : ZG} (h : wp_X11_rules_0 E l d b G0 Q k q0 x1 x2 x3 x4 x5 G) : zW E l mX11_rules d b G0 Q k 0 [some (.ref q0), some (.int x1), some (.int x2), some (.int x3), some (.int x4), some (.int x5)] [] G := by
  unfold wp_X11_rules_0 at h
  refine z_iload_n (pc' := 1) dX11_rules_0 rfl rfl ?_
  refine z_iconst (x := 1) (pc' := 2) dX11_rules_1 (by decide) rfl ?_
  refine z_icmp_lt (pt := 16) (pc' := 5) dX11_rules_2 (by decide) rfl (fun hc => ?_) (fun hc => ?_)
  · have h := h.1 hc
    refine z_iconst (x := 0) (pc' := 17) dX11_rules_16 (by decide) rfl ?_
    exact z_dr (ls' := [some (.ref q0), some (.int x1), some (.int x2), some (.int x3), some (.int x4), some (.int x5)]) ⟨rfl, rfl, rfl, rfl, rfl, rfl, trivial⟩ h
  · have h := h.2 hc
    refine z_iload_n (pc' := 6) dX11_rules_5 rfl rfl ?_
    refine z_sipush (x := 200) (pc' := 9) dX11_rules_6 (by decide) rfl ?_
    refine z_icmp_gt (pt := 16) (pc' := 12) dX11_rules_9 (by decide) rfl (fun hc => ?_) (fun hc => ?_)
    · have h := h.1 hc
      refine z_iconst (x := 0) (pc' := 17) dX11_rules_16 (by decide) rfl ?_
      exact z_dr (ls' := [some (.ref q0), some (.int x1), some (.int x2), some (.int x3), some (.int x4), some (.int x5)]) ⟨rfl, rfl, rfl, rfl, rfl, rfl, trivial⟩ h
    · have h := h.2 hc
      refine z_iconst (x := 1) (pc' := 13) dX11_rules_12 (by decide) rfl ?_
      refine z_goto (pc' := 17) dX11_rules_13 (by decide) ?_
      exact z_dr (ls' := [some (.ref q0), some (.int x1), some (.int x2), some (.int x3), some (.int x4), some (.int x5)]) ⟨rfl, rfl, rfl, rfl, rfl, rfl, trivial⟩ h
def wp_X11_rules_17 (E : ZE) (l : Launch) (d b : Nat) (G0 : ZG) (Q : ZQ) (k : Nat) (q0 : Nat) (x1 : Int32) (x2 : Int32) (x3 : Int32) (x4 : Int32) (x5 : Int32) (s0 : Int32) (G : ZG) : Prop :=
  xcV E l mX11_demand d [.int s0] G k (fun X G9 => Q (.inr X) G9) (fun G1 k2 =>
  ((x2 < 0 →
    xcV E l mX11_demand d [.int 0] G1 k2 (fun X G9 => Q (.inr X) G9) (fun G3 k4 =>
    ((x3 < 0 →
      zW E l mX11_rules d b G0 Q k4 55 [some (.ref q0), some (.int x1), some (.int x2), some (.int x3), some (.int x4), some (.int x5)] [.int 0] G3) ∧
    (¬ (x3 < 0) →
      ((1000 < x3 →
        zW E l mX11_rules d b G0 Q k4 55 [some (.ref q0), some (.int x1), some (.int x2), some (.int x3), some (.int x4), some (.int x5)] [.int 0] G3) ∧
      (¬ (1000 < x3) →
        zW E l mX11_rules d b G0 Q k4 55 [some (.ref q0), some (.int x1), some (.int x2), some (.int x3), some (.int x4), some (.int x5)] [.int 1] G3)))))) ∧
  (¬ (x2 < 0) →
    ((10000 < x2 →
      xcV E l mX11_demand d [.int 0] G1 k2 (fun X G9 => Q (.inr X) G9) (fun G5 k6 =>
      ((x3 < 0 →
        zW E l mX11_rules d b G0 Q k6 55 [some (.ref q0), some (.int x1), some (.int x2), some (.int x3), some (.int x4), some (.int x5)] [.int 0] G5) ∧
      (¬ (x3 < 0) →
        ((1000 < x3 →
          zW E l mX11_rules d b G0 Q k6 55 [some (.ref q0), some (.int x1), some (.int x2), some (.int x3), some (.int x4), some (.int x5)] [.int 0] G5) ∧
        (¬ (1000 < x3) →
          zW E l mX11_rules d b G0 Q k6 55 [some (.ref q0), some (.int x1), some (.int x2), some (.int x3), some (.int x4), some (.int x5)] [.int 1] G5)))))) ∧
    (¬ (10000 < x2) →
      xcV E l mX11_demand d [.int 1] G1 k2 (fun X G9 => Q (.inr X) G9) (fun G7 k8 =>
      ((x3 < 0 →
        zW E l mX11_rules d b G0 Q k8 55 [some (.ref q0), some (.int x1), some (.int x2), some (.int x3), some (.int x4), some (.int x5)] [.int 0] G7) ∧
      (¬ (x3 < 0) →
        ((1000 < x3 →
          zW E l mX11_rules d b G0 Q k8 55 [some (.ref q0), some (.int x1), some (.int x2), some (.int x3), some (.int x4), some (.int x5)] [.int 0] G7) ∧
        (¬ (1000 < x3) →
          zW E l mX11_rules d b G0 Q k8 55 [some (.ref q0), some (.int x1), some (.int x2), some (.int x3), some (.int x4), some (.int x5)] [.int 1] G7))))))))))
theorem wpt_X11_rules_17 {E : ZE} {l : Launch} {d b : Nat} {G0 : ZG} {Q : ZQ} {k : Nat} {q0 : Nat} {x1 : Int32} {x2 : Int32} {x3 : Int32} {x4 : Int32} {x5 : Int32} {s0 : Int32} {G : ZG} (h : wp_X11_rules_17 E l d b G0 Q k q0 x1 x2 x3 x4 x5 s0 G) : zW E l mX11_rules d b G0 Q k 17 [some (.ref q0), some (.int x1), some (.int x2), some (.int x3), some (.int x4), some (.int x5)] [.int s0] G := by
  unfold wp_X11_rules_17 at h
  obtain ⟨d1, b1, Qz, hm, hdd, hb, hkx, hk⟩ := h
  refine z_callS (Y := mX11_demand) (n := 1) (as := [.int s0]) (st := []) (pc' := 20) hm dX11_rules_17 kX11_86 sX11_demand rfl rfl hdd hb (Nat.le_of_ble_eq_true rfl) (fun r G1 hz => ?_) hkx
  obtain ⟨rfl, h⟩ := hk r G1 hz
  refine z_iload_n (pc' := 21) dX11_rules_20 rfl rfl ?_
  refine z_if_lt (pt := 35) (pc' := 24) dX11_rules_21 (by decide) rfl (fun hc => ?_) (fun hc => ?_)
  · have h := h.1 hc
    refine z_iconst (x := 0) (pc' := 36) dX11_rules_35 (by decide) rfl ?_
    obtain ⟨d1, b1, Qz, hm, hdd, hb, hkx, hk⟩ := h
    refine z_callS (Y := mX11_demand) (n := 1) (as := [.int 0]) (st := []) (pc' := 39) hm dX11_rules_36 kX11_86 sX11_demand rfl rfl hdd hb (Nat.le_of_ble_eq_true rfl) (fun r G3 hz => ?_) hkx
    obtain ⟨rfl, h⟩ := hk r G3 hz
    refine z_iload_n (pc' := 40) dX11_rules_39 rfl rfl ?_
    refine z_if_lt (pt := 54) (pc' := 43) dX11_rules_40 (by decide) rfl (fun hc => ?_) (fun hc => ?_)
    · have h := h.1 hc
      refine z_iconst (x := 0) (pc' := 55) dX11_rules_54 (by decide) rfl ?_
      exact z_dr (ls' := [some (.ref q0), some (.int x1), some (.int x2), some (.int x3), some (.int x4), some (.int x5)]) ⟨rfl, rfl, rfl, rfl, rfl, rfl, trivial⟩ h
    · have h := h.2 hc
      refine z_iload_n (pc' := 44) dX11_rules_43 rfl rfl ?_
      refine z_sipush (x := 1000) (pc' := 47) dX11_rules_44 (by decide) rfl ?_
      refine z_icmp_gt (pt := 54) (pc' := 50) dX11_rules_47 (by decide) rfl (fun hc => ?_) (fun hc => ?_)
      · have h := h.1 hc
        refine z_iconst (x := 0) (pc' := 55) dX11_rules_54 (by decide) rfl ?_
        exact z_dr (ls' := [some (.ref q0), some (.int x1), some (.int x2), some (.int x3), some (.int x4), some (.int x5)]) ⟨rfl, rfl, rfl, rfl, rfl, rfl, trivial⟩ h
      · have h := h.2 hc
        refine z_iconst (x := 1) (pc' := 51) dX11_rules_50 (by decide) rfl ?_
        refine z_goto (pc' := 55) dX11_rules_51 (by decide) ?_
        exact z_dr (ls' := [some (.ref q0), some (.int x1), some (.int x2), some (.int x3), some (.int x4), some (.int x5)]) ⟨rfl, rfl, rfl, rfl, rfl, rfl, trivial⟩ h
  · have h := h.2 hc
    refine z_iload_n (pc' := 25) dX11_rules_24 rfl rfl ?_
    refine z_sipush (x := 10000) (pc' := 28) dX11_rules_25 (by decide) rfl ?_
    refine z_icmp_gt (pt := 35) (pc' := 31) dX11_rules_28 (by decide) rfl (fun hc => ?_) (fun hc => ?_)
    · have h := h.1 hc
      refine z_iconst (x := 0) (pc' := 36) dX11_rules_35 (by decide) rfl ?_
      obtain ⟨d1, b1, Qz, hm, hdd, hb, hkx, hk⟩ := h
      refine z_callS (Y := mX11_demand) (n := 1) (as := [.int 0]) (st := []) (pc' := 39) hm dX11_rules_36 kX11_86 sX11_demand rfl rfl hdd hb (Nat.le_of_ble_eq_true rfl) (fun r G5 hz => ?_) hkx
      obtain ⟨rfl, h⟩ := hk r G5 hz
      refine z_iload_n (pc' := 40) dX11_rules_39 rfl rfl ?_
      refine z_if_lt (pt := 54) (pc' := 43) dX11_rules_40 (by decide) rfl (fun hc => ?_) (fun hc => ?_)
      · have h := h.1 hc
        refine z_iconst (x := 0) (pc' := 55) dX11_rules_54 (by decide) rfl ?_
        exact z_dr (ls' := [some (.ref q0), some (.int x1), some (.int x2), some (.int x3), some (.int x4), some (.int x5)]) ⟨rfl, rfl, rfl, rfl, rfl, rfl, trivial⟩ h
      · have h := h.2 hc
        refine z_iload_n (pc' := 44) dX11_rules_43 rfl rfl ?_
        refine z_sipush (x := 1000) (pc' := 47) dX11_rules_44 (by decide) rfl ?_
        refine z_icmp_gt (pt := 54) (pc' := 50) dX11_rules_47 (by decide) rfl (fun hc => ?_) (fun hc => ?_)
        · have h := h.1 hc
          refine z_iconst (x := 0) (pc' := 55) dX11_rules_54 (by decide) rfl ?_
          exact z_dr (ls' := [some (.ref q0), some (.int x1), some (.int x2), some (.int x3), some (.int x4), some (.int x5)]) ⟨rfl, rfl, rfl, rfl, rfl, rfl, trivial⟩ h
        · have h := h.2 hc
          refine z_iconst (x := 1) (pc' := 51) dX11_rules_50 (by decide) rfl ?_
          refine z_goto (pc' := 55) dX11_rules_51 (by decide) ?_
          exact z_dr (ls' := [some (.ref q0), some (.int x1), some (.int x2), some (.int x3), some (.int x4), some (.int x5)]) ⟨rfl, rfl, rfl, rfl, rfl, rfl, trivial⟩ h
    · have h := h.2 hc
      refine z_iconst (x := 1) (pc' := 32) dX11_rules_31 (by decide) rfl ?_
      refine z_goto (pc' := 36) dX11_rules_32 (by decide) ?_
      obtain ⟨d1, b1, Qz, hm, hdd, hb, hkx, hk⟩ := h
      refine z_callS (Y := mX11_demand) (n := 1) (as := [.int 1]) (st := []) (pc' := 39) hm dX11_rules_36 kX11_86 sX11_demand rfl rfl hdd hb (Nat.le_of_ble_eq_true rfl) (fun r G7 hz => ?_) hkx
      obtain ⟨rfl, h⟩ := hk r G7 hz
      refine z_iload_n (pc' := 40) dX11_rules_39 rfl rfl ?_
      refine z_if_lt (pt := 54) (pc' := 43) dX11_rules_40 (by decide) rfl (fun hc => ?_) (fun hc => ?_)
      · have h := h.1 hc
        refine z_iconst (x := 0) (pc' := 55) dX11_rules_54 (by decide) rfl ?_
        exact z_dr (ls' := [some (.ref q0), some (.int x1), some (.int x2), some (.int x3), some (.int x4), some (.int x5)]) ⟨rfl, rfl, rfl, rfl, rfl, rfl, trivial⟩ h
      · have h := h.2 hc
        refine z_iload_n (pc' := 44) dX11_rules_43 rfl rfl ?_
        refine z_sipush (x := 1000) (pc' := 47) dX11_rules_44 (by decide) rfl ?_
        refine z_icmp_gt (pt := 54) (pc' := 50) dX11_rules_47 (by decide) rfl (fun hc => ?_) (fun hc => ?_)
        · have h := h.1 hc
          refine z_iconst (x := 0) (pc' := 55) dX11_rules_54 (by decide) rfl ?_
          exact z_dr (ls' := [some (.ref q0), some (.int x1), some (.int x2), some (.int x3), some (.int x4), some (.int x5)]) ⟨rfl, rfl, rfl, rfl, rfl, rfl, trivial⟩ h
        · have h := h.2 hc
          refine z_iconst (x := 1) (pc' := 51) dX11_rules_50 (by decide) rfl ?_
          refine z_goto (pc' := 55) dX11_rules_51 (by decide) ?_
          exact z_dr (ls' := [some (.ref q0), some (.int x1), some (.int x2), some (.int x3), some (.int x4), some (.int x5)]) ⟨rfl, rfl, rfl, rfl, rfl, rfl, trivial⟩ h
def wp_X11_rules_55 (E : ZE) (l : Launch) (d b : Nat) (G0 : ZG) (Q : ZQ) (k : Nat) (q0 : Nat) (x1 : Int32) (x2 : Int32) (x3 : Int32) (x4 : Int32) (x5 : Int32) (s0 : Int32) (G : ZG) : Prop :=
  xcV E l mX11_demand d [.int s0] G k (fun X G9 => Q (.inr X) G9) (fun G1 k2 =>
  ((x4 < 0 →
    zW E l mX11_rules d b G0 Q k2 87 [some (.ref q0), some (.int x1), some (.int x2), some (.int x3), some (.int x4), some (.int x5)] [.int 0] G1) ∧
  (¬ (x4 < 0) →
    ((60 < x4 →
      zW E l mX11_rules d b G0 Q k2 87 [some (.ref q0), some (.int x1), some (.int x2), some (.int x3), some (.int x4), some (.int x5)] [.int 0] G1) ∧
    (¬ (60 < x4) →
      ((x5 < 0 →
        zW E l mX11_rules d b G0 Q k2 87 [some (.ref q0), some (.int x1), some (.int x2), some (.int x3), some (.int x4), some (.int x5)] [.int 0] G1) ∧
      (¬ (x5 < 0) →
        ((60 < x5 →
          zW E l mX11_rules d b G0 Q k2 87 [some (.ref q0), some (.int x1), some (.int x2), some (.int x3), some (.int x4), some (.int x5)] [.int 0] G1) ∧
        (¬ (60 < x5) →
          zW E l mX11_rules d b G0 Q k2 87 [some (.ref q0), some (.int x1), some (.int x2), some (.int x3), some (.int x4), some (.int x5)] [.int 1] G1)))))))))
theorem wpt_X11_rules_55 {E : ZE} {l : Launch} {d b : Nat} {G0 : ZG} {Q : ZQ} {k : Nat} {q0 : Nat} {x1 : Int32} {x2 : Int32} {x3 : Int32} {x4 : Int32} {x5 : Int32} {s0 : Int32} {G : ZG} (h : wp_X11_rules_55 E l d b G0 Q k q0 x1 x2 x3 x4 x5 s0 G) : zW E l mX11_rules d b G0 Q k 55 [some (.ref q0), some (.int x1), some (.int x2), some (.int x3), some (.int x4), some (.int x5)] [.int s0] G := by
  unfold wp_X11_rules_55 at h
  obtain ⟨d1, b1, Qz, hm, hdd, hb, hkx, hk⟩ := h
  refine z_callS (Y := mX11_demand) (n := 1) (as := [.int s0]) (st := []) (pc' := 58) hm dX11_rules_55 kX11_86 sX11_demand rfl rfl hdd hb (Nat.le_of_ble_eq_true rfl) (fun r G1 hz => ?_) hkx
  obtain ⟨rfl, h⟩ := hk r G1 hz
  refine z_iload (pc' := 60) dX11_rules_58 rfl rfl ?_
  refine z_if_lt (pt := 86) (pc' := 63) dX11_rules_60 (by decide) rfl (fun hc => ?_) (fun hc => ?_)
  · have h := h.1 hc
    refine z_iconst (x := 0) (pc' := 87) dX11_rules_86 (by decide) rfl ?_
    exact z_dr (ls' := [some (.ref q0), some (.int x1), some (.int x2), some (.int x3), some (.int x4), some (.int x5)]) ⟨rfl, rfl, rfl, rfl, rfl, rfl, trivial⟩ h
  · have h := h.2 hc
    refine z_iload (pc' := 65) dX11_rules_63 rfl rfl ?_
    refine z_bipush (x := 60) (pc' := 67) dX11_rules_65 (by decide) rfl ?_
    refine z_icmp_gt (pt := 86) (pc' := 70) dX11_rules_67 (by decide) rfl (fun hc => ?_) (fun hc => ?_)
    · have h := h.1 hc
      refine z_iconst (x := 0) (pc' := 87) dX11_rules_86 (by decide) rfl ?_
      exact z_dr (ls' := [some (.ref q0), some (.int x1), some (.int x2), some (.int x3), some (.int x4), some (.int x5)]) ⟨rfl, rfl, rfl, rfl, rfl, rfl, trivial⟩ h
    · have h := h.2 hc
      refine z_iload (pc' := 72) dX11_rules_70 rfl rfl ?_
      refine z_if_lt (pt := 86) (pc' := 75) dX11_rules_72 (by decide) rfl (fun hc => ?_) (fun hc => ?_)
      · have h := h.1 hc
        refine z_iconst (x := 0) (pc' := 87) dX11_rules_86 (by decide) rfl ?_
        exact z_dr (ls' := [some (.ref q0), some (.int x1), some (.int x2), some (.int x3), some (.int x4), some (.int x5)]) ⟨rfl, rfl, rfl, rfl, rfl, rfl, trivial⟩ h
      · have h := h.2 hc
        refine z_iload (pc' := 77) dX11_rules_75 rfl rfl ?_
        refine z_bipush (x := 60) (pc' := 79) dX11_rules_77 (by decide) rfl ?_
        refine z_icmp_gt (pt := 86) (pc' := 82) dX11_rules_79 (by decide) rfl (fun hc => ?_) (fun hc => ?_)
        · have h := h.1 hc
          refine z_iconst (x := 0) (pc' := 87) dX11_rules_86 (by decide) rfl ?_
          exact z_dr (ls' := [some (.ref q0), some (.int x1), some (.int x2), some (.int x3), some (.int x4), some (.int x5)]) ⟨rfl, rfl, rfl, rfl, rfl, rfl, trivial⟩ h
        · have h := h.2 hc
          refine z_iconst (x := 1) (pc' := 83) dX11_rules_82 (by decide) rfl ?_
          refine z_goto (pc' := 87) dX11_rules_83 (by decide) ?_
          exact z_dr (ls' := [some (.ref q0), some (.int x1), some (.int x2), some (.int x3), some (.int x4), some (.int x5)]) ⟨rfl, rfl, rfl, rfl, rfl, rfl, trivial⟩ h
def wp_X11_rules_87 (E : ZE) (l : Launch) (d b : Nat) (G0 : ZG) (Q : ZQ) (k : Nat) (q0 : Nat) (x1 : Int32) (x2 : Int32) (x3 : Int32) (x4 : Int32) (x5 : Int32) (s0 : Int32) (G : ZG) : Prop :=
  xcV E l mX11_demand d [.int s0] G k (fun X G9 => Q (.inr X) G9) (fun G1 k2 =>
  zob G1 q0 12 ∧
  zob G1 (zrv G1 q0 7) 10 ∧
  ∀ G3, G3 = zsi G1 (zrv G1 q0 7) 0 x1 →
  zob G3 q0 12 ∧
  zob G3 (zrv G3 q0 7) 10 ∧
  ∀ G4, G4 = zsi G3 (zrv G3 q0 7) 1 x2 →
  zob G4 q0 12 ∧
  zob G4 (zrv G4 q0 7) 10 ∧
  ∀ G5, G5 = zsi G4 (zrv G4 q0 7) 2 x3 →
  zob G5 q0 12 ∧
  zob G5 (zrv G5 q0 7) 10 ∧
  ∀ G6, G6 = zsi G5 (zrv G5 q0 7) 3 x4 →
  zob G6 q0 12 ∧
  zob G6 (zrv G6 q0 7) 10 ∧
  ∀ G7, G7 = zsi G6 (zrv G6 q0 7) 4 x5 →
  Q (.inl none) G7)
theorem wpt_X11_rules_87 {E : ZE} {l : Launch} {d b : Nat} {G0 : ZG} {Q : ZQ} {k : Nat} {q0 : Nat} {x1 : Int32} {x2 : Int32} {x3 : Int32} {x4 : Int32} {x5 : Int32} {s0 : Int32} {G : ZG} (h : wp_X11_rules_87 E l d b G0 Q k q0 x1 x2 x3 x4 x5 s0 G) : zW E l mX11_rules d b G0 Q k 87 [some (.ref q0), some (.int x1), some (.int x2), some (.int x3), some (.int x4), some (.int x5)] [.int s0] G := by
  unfold wp_X11_rules_87 at h
  obtain ⟨d1, b1, Qz, hm, hdd, hb, hkx, hk⟩ := h
  refine z_callS (Y := mX11_demand) (n := 1) (as := [.int s0]) (st := []) (pc' := 90) hm dX11_rules_87 kX11_86 sX11_demand rfl rfl hdd hb (Nat.le_of_ble_eq_true rfl) (fun r G1 hz => ?_) hkx
  obtain ⟨rfl, h⟩ := hk r G1 hz
  refine z_aload_n (pc' := 91) dX11_rules_90 rfl rfl ?_
  obtain ⟨h1, h⟩ := h
  refine z_getR (ci := 12) (kf := 7) (pc' := 94) dX11_rules_91 kX11_53 (Or.inl rfl) (by decide) (by decide) rfl rfl h1 ?_
  refine z_iload_n (pc' := 95) dX11_rules_94 rfl rfl ?_
  obtain ⟨h1, h⟩ := h
  obtain ⟨G3, hG⟩ : ∃ z, z = zsi G1 (zrv G1 q0 7) 0 x1 := ⟨_, rfl⟩
  have h := h _ hG
  refine z_putI (ci := 10) (kf := 0) (pc' := 98) dX11_rules_95 kX11_310 (Or.inl rfl) (by decide) (by decide) rfl (Or.inl rfl) rfl h1 (zok_int _) ?_
  refine z_st hG ?_
  refine z_aload_n (pc' := 99) dX11_rules_98 rfl rfl ?_
  obtain ⟨h1, h⟩ := h
  refine z_getR (ci := 12) (kf := 7) (pc' := 102) dX11_rules_99 kX11_53 (Or.inl rfl) (by decide) (by decide) rfl rfl h1 ?_
  refine z_iload_n (pc' := 103) dX11_rules_102 rfl rfl ?_
  obtain ⟨h1, h⟩ := h
  obtain ⟨G4, hG⟩ : ∃ z, z = zsi G3 (zrv G3 q0 7) 1 x2 := ⟨_, rfl⟩
  have h := h _ hG
  refine z_putI (ci := 10) (kf := 1) (pc' := 106) dX11_rules_103 kX11_313 (Or.inl rfl) (by decide) (by decide) rfl (Or.inl rfl) rfl h1 (zok_int _) ?_
  refine z_st hG ?_
  refine z_aload_n (pc' := 107) dX11_rules_106 rfl rfl ?_
  obtain ⟨h1, h⟩ := h
  refine z_getR (ci := 12) (kf := 7) (pc' := 110) dX11_rules_107 kX11_53 (Or.inl rfl) (by decide) (by decide) rfl rfl h1 ?_
  refine z_iload_n (pc' := 111) dX11_rules_110 rfl rfl ?_
  obtain ⟨h1, h⟩ := h
  obtain ⟨G5, hG⟩ : ∃ z, z = zsi G4 (zrv G4 q0 7) 2 x3 := ⟨_, rfl⟩
  have h := h _ hG
  refine z_putI (ci := 10) (kf := 2) (pc' := 114) dX11_rules_111 kX11_316 (Or.inl rfl) (by decide) (by decide) rfl (Or.inl rfl) rfl h1 (zok_int _) ?_
  refine z_st hG ?_
  refine z_aload_n (pc' := 115) dX11_rules_114 rfl rfl ?_
  obtain ⟨h1, h⟩ := h
  refine z_getR (ci := 12) (kf := 7) (pc' := 118) dX11_rules_115 kX11_53 (Or.inl rfl) (by decide) (by decide) rfl rfl h1 ?_
  refine z_iload (pc' := 120) dX11_rules_118 rfl rfl ?_
  obtain ⟨h1, h⟩ := h
  obtain ⟨G6, hG⟩ : ∃ z, z = zsi G5 (zrv G5 q0 7) 3 x4 := ⟨_, rfl⟩
  have h := h _ hG
  refine z_putI (ci := 10) (kf := 3) (pc' := 123) dX11_rules_120 kX11_319 (Or.inl rfl) (by decide) (by decide) rfl (Or.inl rfl) rfl h1 (zok_int _) ?_
  refine z_st hG ?_
  refine z_aload_n (pc' := 124) dX11_rules_123 rfl rfl ?_
  obtain ⟨h1, h⟩ := h
  refine z_getR (ci := 12) (kf := 7) (pc' := 127) dX11_rules_124 kX11_53 (Or.inl rfl) (by decide) (by decide) rfl rfl h1 ?_
  refine z_iload (pc' := 129) dX11_rules_127 rfl rfl ?_
  obtain ⟨h1, h⟩ := h
  obtain ⟨G7, hG⟩ : ∃ z, z = zsi G6 (zrv G6 q0 7) 4 x5 := ⟨_, rfl⟩
  have h := h _ hG
  refine z_putI (ci := 10) (kf := 4) (pc' := 132) dX11_rules_129 kX11_322 (Or.inl rfl) (by decide) (by decide) rfl (Or.inl rfl) rfl h1 (zok_int _) ?_
  refine z_st hG ?_
  exact z_vret dX11_rules_132 rfl h
def wp_X11_sign_0 (E : ZE) (l : Launch) (d b : Nat) (G0 : ZG) (Q : ZQ) (k : Nat) (q0 : Nat) (x1 : Int32) (x2 : Int32) (G : ZG) : Prop :=
  zob G q0 12 ∧
  xcR E l mX11_personAt d [.ref q0, .int x1] G k (fun X G9 => Q (.inr X) G9) (fun y1 G2 k3 =>
  zob G2 y1 9 ∧
  (((zrv G2 y1 3) = 0 →
    Q (.inl (some (.int (-1)))) G2) ∧
  (¬ ((zrv G2 y1 3) = 0) →
    ((x2 < 0 →
      Q (.inl (some (.int (-1)))) G2) ∧
    (¬ (x2 < 0) →
      ((x2 < 24 →
        zob G2 (zrv G2 y1 3) 6 ∧
        (zar G2 (zrv G2 (zrv G2 y1 3) 0) 0 ∨ zrd G2 (zrv G2 (zrv G2 y1 3) 0) .int) ∧ vp_in x2 (zln G2 (zrv G2 (zrv G2 y1 3) 0)) ∧
        Q (.inl (some (.int (ziv G2 (zrv G2 (zrv G2 y1 3) 0) x2.toNatClampNeg)))) G2) ∧
      (¬ (x2 < 24) →
        Q (.inl (some (.int (-1)))) G2)))))))
theorem wpt_X11_sign_0 {E : ZE} {l : Launch} {d b : Nat} {G0 : ZG} {Q : ZQ} {k : Nat} {q0 : Nat} {x1 : Int32} {x2 : Int32} {G : ZG} (h : wp_X11_sign_0 E l d b G0 Q k q0 x1 x2 G) : zW E l mX11_sign d b G0 Q k 0 [some (.ref q0), some (.int x1), some (.int x2), none] [] G := by
  unfold wp_X11_sign_0 at h
  refine z_aload_n (pc' := 1) dX11_sign_0 rfl rfl ?_
  refine z_iload_n (pc' := 2) dX11_sign_1 rfl rfl ?_
  obtain ⟨h1, h⟩ := h
  obtain ⟨d1, b1, Qz, hm, hdd, hb, hkx, hk⟩ := h
  refine z_callV (Y := mX11_personAt) (n := 1) (as := [.int x1]) (st := []) (pc' := 5) (ci := 12) (q := q0) hm dX11_sign_2 kX11_134 vX11_personAt rfl rfl (by decide) rfl h1 hdd hb (Nat.le_of_ble_eq_true rfl) (fun r G2 hz => ?_) hkx
  obtain ⟨y1, rfl, h⟩ := hk r G2 hz
  obtain ⟨h1, h⟩ := h
  refine z_getR (ci := 9) (kf := 3) (pc' := 8) dX11_sign_5 kX11_146 (Or.inl rfl) (by decide) (by decide) rfl rfl h1 ?_
  refine z_astore_n (pc' := 9) dX11_sign_8 (by decide) rfl ?_
  refine z_aload_n (pc' := 10) dX11_sign_9 rfl rfl ?_
  refine z_ifnull (pt := 23) (pc' := 13) dX11_sign_10 (by decide) rfl (fun hc => ?_) (fun hc => ?_)
  · have h := h.1 hc
    refine z_iconst (x := (-1)) (pc' := 24) dX11_sign_23 (by decide) rfl ?_
    exact z_iret dX11_sign_24 rfl h
  · have h := h.2 hc
    refine z_iload_n (pc' := 14) dX11_sign_13 rfl rfl ?_
    refine z_if_lt (pt := 23) (pc' := 17) dX11_sign_14 (by decide) rfl (fun hc => ?_) (fun hc => ?_)
    · have h := h.1 hc
      refine z_iconst (x := (-1)) (pc' := 24) dX11_sign_23 (by decide) rfl ?_
      exact z_iret dX11_sign_24 rfl h
    · have h := h.2 hc
      refine z_iload_n (pc' := 18) dX11_sign_17 rfl rfl ?_
      refine z_bipush (x := 24) (pc' := 20) dX11_sign_18 (by decide) rfl ?_
      refine z_icmp_lt (pt := 25) (pc' := 23) dX11_sign_20 (by decide) rfl (fun hc => ?_) (fun hc => ?_)
      · have h := h.1 hc
        refine z_aload_n (pc' := 26) dX11_sign_25 rfl rfl ?_
        obtain ⟨h1, h⟩ := h
        refine z_getR (ci := 6) (kf := 0) (pc' := 29) dX11_sign_26 kX11_153 (Or.inl rfl) (by decide) (by decide) rfl rfl h1 ?_
        refine z_iload_n (pc' := 30) dX11_sign_29 rfl rfl ?_
        obtain ⟨h1, h2, h⟩ := h
        refine z_iald (pc' := 31) dX11_sign_30 rfl h1 h2 ?_
        exact z_iret dX11_sign_31 rfl h
      · have h := h.2 hc
        refine z_iconst (x := (-1)) (pc' := 24) dX11_sign_23 (by decide) rfl ?_
        exact z_iret dX11_sign_24 rfl h
def wp_X11_sort_0 (E : ZE) (l : Launch) (d b : Nat) (G0 : ZG) (Q : ZQ) (k : Nat) (q0 : Nat) (x1 : Int32) (G : ZG) : Prop :=
  zW E l mX11_sort d b G0 Q k 2 [some (.ref q0), some (.int x1), some (.int 1), none, none] [] G
theorem wpt_X11_sort_0 {E : ZE} {l : Launch} {d b : Nat} {G0 : ZG} {Q : ZQ} {k : Nat} {q0 : Nat} {x1 : Int32} {G : ZG} (h : wp_X11_sort_0 E l d b G0 Q k q0 x1 G) : zW E l mX11_sort d b G0 Q k 0 [some (.ref q0), some (.int x1), none, none, none] [] G := by
  unfold wp_X11_sort_0 at h
  refine z_iconst (x := 1) (pc' := 1) dX11_sort_0 (by decide) rfl ?_
  refine z_istore_n (pc' := 2) dX11_sort_1 (by decide) rfl ?_
  exact z_dr (ls' := [some (.ref q0), some (.int x1), some (.int 1), none, none]) ⟨rfl, rfl, rfl, trivial⟩ h
def wp_X11_sort_2 (E : ZE) (l : Launch) (d b : Nat) (G0 : ZG) (Q : ZQ) (k : Nat) (q0 : Nat) (x1 : Int32) (x2 : Int32) (G : ZG) : Prop :=
  ((x1 ≤ x2 →
    Q (.inl none) G) ∧
  (¬ (x1 ≤ x2) →
    (zar G q0 0 ∨ zrd G q0 .int) ∧
    (((Int32.ofNat (zln G q0)) ≤ x2 →
      Q (.inl none) G) ∧
    (¬ ((Int32.ofNat (zln G q0)) ≤ x2) →
      (zar G q0 0 ∨ zrd G q0 .int) ∧ vp_in x2 (zln G q0) ∧
      zW E l mX11_sort d b G0 Q k 20 [some (.ref q0), some (.int x1), some (.int x2), some (.int (ziv G q0 x2.toNatClampNeg)), some (.int x2)] [] G))))
theorem wpt_X11_sort_2 {E : ZE} {l : Launch} {d b : Nat} {G0 : ZG} {Q : ZQ} {k : Nat} {q0 : Nat} {x1 : Int32} {x2 : Int32} {G : ZG} (h : wp_X11_sort_2 E l d b G0 Q k q0 x1 x2 G) : zW E l mX11_sort d b G0 Q k 2 [some (.ref q0), some (.int x1), some (.int x2), none, none] [] G := by
  unfold wp_X11_sort_2 at h
  refine z_iload_n (pc' := 3) dX11_sort_2 rfl rfl ?_
  refine z_iload_n (pc' := 4) dX11_sort_3 rfl rfl ?_
  refine z_icmp_ge (pt := 62) (pc' := 7) dX11_sort_4 (by decide) rfl (fun hc => ?_) (fun hc => ?_)
  · have h := h.1 hc
    exact z_vret dX11_sort_62 rfl h
  · have h := h.2 hc
    refine z_iload_n (pc' := 8) dX11_sort_7 rfl rfl ?_
    refine z_aload_n (pc' := 9) dX11_sort_8 rfl rfl ?_
    obtain ⟨h1, h⟩ := h
    refine z_alen (pc' := 10) dX11_sort_9 rfl (h1.imp (fun h => ⟨0, by decide, h⟩) (fun h => ⟨_, h⟩)) rfl ?_
    refine z_icmp_ge (pt := 62) (pc' := 13) dX11_sort_10 (by decide) rfl (fun hc => ?_) (fun hc => ?_)
    · have h := h.1 hc
      exact z_vret dX11_sort_62 rfl h
    · have h := h.2 hc
      refine z_aload_n (pc' := 14) dX11_sort_13 rfl rfl ?_
      refine z_iload_n (pc' := 15) dX11_sort_14 rfl rfl ?_
      obtain ⟨h1, h2, h⟩ := h
      refine z_iald (pc' := 16) dX11_sort_15 rfl h1 h2 ?_
      refine z_istore_n (pc' := 17) dX11_sort_16 (by decide) rfl ?_
      refine z_iload_n (pc' := 18) dX11_sort_17 rfl rfl ?_
      refine z_istore (pc' := 20) dX11_sort_18 (by decide) rfl ?_
      exact z_dr (ls' := [some (.ref q0), some (.int x1), some (.int x2), some (.int (ziv G q0 x2.toNatClampNeg)), some (.int x2)]) ⟨rfl, rfl, rfl, rfl, rfl, trivial⟩ h
def wp_X11_sort_20 (E : ZE) (l : Launch) (d b : Nat) (G0 : ZG) (Q : ZQ) (k : Nat) (q0 : Nat) (x1 : Int32) (x2 : Int32) (x3 : Int32) (x4 : Int32) (G : ZG) : Prop :=
  ((x4 ≤ 0 →
    zar G q0 0 ∧ vp_in x4 (zln G q0) ∧
    ∀ G1, G1 = zsi G q0 x4.toNatClampNeg x3 →
    zW E l mX11_sort d b G0 Q k 2 [some (.ref q0), some (.int x1), some (.int (x2 + 1)), none, none] [] G1) ∧
  (¬ (x4 ≤ 0) →
    (zar G q0 0 ∨ zrd G q0 .int) ∧ vp_in (x4 - 1) (zln G q0) ∧
    (((ziv G q0 (x4 - 1).toNatClampNeg) ≤ x3 →
      zar G q0 0 ∧ vp_in x4 (zln G q0) ∧
      ∀ G2, G2 = zsi G q0 x4.toNatClampNeg x3 →
      zW E l mX11_sort d b G0 Q k 2 [some (.ref q0), some (.int x1), some (.int (x2 + 1)), none, none] [] G2) ∧
    (¬ ((ziv G q0 (x4 - 1).toNatClampNeg) ≤ x3) →
      (zar G q0 0 ∨ zrd G q0 .int) ∧ vp_in (x4 - 1) (zln G q0) ∧
      zar G q0 0 ∧ vp_in x4 (zln G q0) ∧
      ∀ G3, G3 = zsi G q0 x4.toNatClampNeg (ziv G q0 (x4 - 1).toNatClampNeg) →
      zW E l mX11_sort d b G0 Q k 20 [some (.ref q0), some (.int x1), some (.int x2), some (.int x3), some (.int (x4 + (-1)))] [] G3))))
theorem wpt_X11_sort_20 {E : ZE} {l : Launch} {d b : Nat} {G0 : ZG} {Q : ZQ} {k : Nat} {q0 : Nat} {x1 : Int32} {x2 : Int32} {x3 : Int32} {x4 : Int32} {G : ZG} (h : wp_X11_sort_20 E l d b G0 Q k q0 x1 x2 x3 x4 G) : zW E l mX11_sort d b G0 Q k 20 [some (.ref q0), some (.int x1), some (.int x2), some (.int x3), some (.int x4)] [] G := by
  unfold wp_X11_sort_20 at h
  refine z_iload (pc' := 22) dX11_sort_20 rfl rfl ?_
  refine z_if_le (pt := 51) (pc' := 25) dX11_sort_22 (by decide) rfl (fun hc => ?_) (fun hc => ?_)
  · have h := h.1 hc
    refine z_aload_n (pc' := 52) dX11_sort_51 rfl rfl ?_
    refine z_iload (pc' := 54) dX11_sort_52 rfl rfl ?_
    refine z_iload_n (pc' := 55) dX11_sort_54 rfl rfl ?_
    obtain ⟨h1, h2, h⟩ := h
    obtain ⟨G1, hG⟩ : ∃ z, z = zsi G q0 x4.toNatClampNeg x3 := ⟨_, rfl⟩
    have h := h _ hG
    refine z_iast (pc' := 56) dX11_sort_55 rfl h1 h2  ?_
    refine z_st hG ?_
    refine z_iinc (y := x2 + 1) (pc' := 59) dX11_sort_56 rfl (zinc_1 _) (by decide) rfl ?_
    refine z_goto (pc' := 2) dX11_sort_59 (by decide) ?_
    exact z_dr (ls' := [some (.ref q0), some (.int x1), some (.int (x2 + 1)), none, none]) ⟨rfl, rfl, rfl, trivial⟩ h
  · have h := h.2 hc
    refine z_aload_n (pc' := 26) dX11_sort_25 rfl rfl ?_
    refine z_iload (pc' := 28) dX11_sort_26 rfl rfl ?_
    refine z_iconst (x := 1) (pc' := 29) dX11_sort_28 (by decide) rfl ?_
    refine z_isub (pc' := 30) dX11_sort_29 rfl rfl ?_
    obtain ⟨h1, h2, h⟩ := h
    refine z_iald (pc' := 31) dX11_sort_30 rfl h1 h2 ?_
    refine z_iload_n (pc' := 32) dX11_sort_31 rfl rfl ?_
    refine z_icmp_le (pt := 51) (pc' := 35) dX11_sort_32 (by decide) rfl (fun hc => ?_) (fun hc => ?_)
    · have h := h.1 hc
      refine z_aload_n (pc' := 52) dX11_sort_51 rfl rfl ?_
      refine z_iload (pc' := 54) dX11_sort_52 rfl rfl ?_
      refine z_iload_n (pc' := 55) dX11_sort_54 rfl rfl ?_
      obtain ⟨h1, h2, h⟩ := h
      obtain ⟨G2, hG⟩ : ∃ z, z = zsi G q0 x4.toNatClampNeg x3 := ⟨_, rfl⟩
      have h := h _ hG
      refine z_iast (pc' := 56) dX11_sort_55 rfl h1 h2  ?_
      refine z_st hG ?_
      refine z_iinc (y := x2 + 1) (pc' := 59) dX11_sort_56 rfl (zinc_1 _) (by decide) rfl ?_
      refine z_goto (pc' := 2) dX11_sort_59 (by decide) ?_
      exact z_dr (ls' := [some (.ref q0), some (.int x1), some (.int (x2 + 1)), none, none]) ⟨rfl, rfl, rfl, trivial⟩ h
    · have h := h.2 hc
      refine z_aload_n (pc' := 36) dX11_sort_35 rfl rfl ?_
      refine z_iload (pc' := 38) dX11_sort_36 rfl rfl ?_
      refine z_aload_n (pc' := 39) dX11_sort_38 rfl rfl ?_
      refine z_iload (pc' := 41) dX11_sort_39 rfl rfl ?_
      refine z_iconst (x := 1) (pc' := 42) dX11_sort_41 (by decide) rfl ?_
      refine z_isub (pc' := 43) dX11_sort_42 rfl rfl ?_
      obtain ⟨h1, h2, h⟩ := h
      refine z_iald (pc' := 44) dX11_sort_43 rfl h1 h2 ?_
      obtain ⟨h1, h2, h⟩ := h
      obtain ⟨G3, hG⟩ : ∃ z, z = zsi G q0 x4.toNatClampNeg (ziv G q0 (x4 - 1).toNatClampNeg) := ⟨_, rfl⟩
      have h := h _ hG
      refine z_iast (pc' := 45) dX11_sort_44 rfl h1 h2  ?_
      refine z_st hG ?_
      refine z_iinc (y := x4 + (-1)) (pc' := 48) dX11_sort_45 rfl (zinc_m1 _) (by decide) rfl ?_
      refine z_goto (pc' := 20) dX11_sort_48 (by decide) ?_
      exact z_dr (ls' := [some (.ref q0), some (.int x1), some (.int x2), some (.int x3), some (.int (x4 + (-1)))]) ⟨rfl, rfl, rfl, rfl, rfl, trivial⟩ h
def wp_X11_tell_0 (E : ZE) (l : Launch) (d b : Nat) (G0 : ZG) (Q : ZQ) (k : Nat) (q0 : Nat) (x1 : Int32) (x2 : Int32) (x3 : Int32) (G : ZG) : Prop :=
  zob G q0 12 ∧
  xcR E l mX11_personAt d [.ref q0, .int x1] G k (fun X G9 => Q (.inr X) G9) (fun y1 G2 k3 =>
  zob G2 q0 12 ∧
  xcR E l mX11_personAt d [.ref q0, .int x2] G2 k3 (fun X G9 => Q (.inr X) G9) (fun y4 G5 k6 =>
  ((x1 = x2 →
    xcV E l mX11_demand d [.int 0] G5 k6 (fun X G9 => Q (.inr X) G9) (fun G7 k8 =>
    ((x3 = 0 →
      zW E l mX11_tell d b G0 Q k8 40 [some (.ref q0), none, none, some (.int x3), some (.ref y1), some (.ref y4)] [.int 2, .ref y4, .ref y1] G7) ∧
    (¬ (x3 = 0) →
      zW E l mX11_tell d b G0 Q k8 40 [some (.ref q0), none, none, some (.int x3), some (.ref y1), some (.ref y4)] [.int 1, .ref y4, .ref y1] G7)))) ∧
  (¬ (x1 = x2) →
    xcV E l mX11_demand d [.int 1] G5 k6 (fun X G9 => Q (.inr X) G9) (fun G9 k10 =>
    ((x3 = 0 →
      zW E l mX11_tell d b G0 Q k10 40 [some (.ref q0), none, none, some (.int x3), some (.ref y1), some (.ref y4)] [.int 2, .ref y4, .ref y1] G9) ∧
    (¬ (x3 = 0) →
      zW E l mX11_tell d b G0 Q k10 40 [some (.ref q0), none, none, some (.int x3), some (.ref y1), some (.ref y4)] [.int 1, .ref y4, .ref y1] G9)))))))
theorem wpt_X11_tell_0 {E : ZE} {l : Launch} {d b : Nat} {G0 : ZG} {Q : ZQ} {k : Nat} {q0 : Nat} {x1 : Int32} {x2 : Int32} {x3 : Int32} {G : ZG} (h : wp_X11_tell_0 E l d b G0 Q k q0 x1 x2 x3 G) : zW E l mX11_tell d b G0 Q k 0 [some (.ref q0), some (.int x1), some (.int x2), some (.int x3), none, none] [] G := by
  unfold wp_X11_tell_0 at h
  refine z_aload_n (pc' := 1) dX11_tell_0 rfl rfl ?_
  refine z_iload_n (pc' := 2) dX11_tell_1 rfl rfl ?_
  obtain ⟨h1, h⟩ := h
  obtain ⟨d1, b1, Qz, hm, hdd, hb, hkx, hk⟩ := h
  refine z_callV (Y := mX11_personAt) (n := 1) (as := [.int x1]) (st := []) (pc' := 5) (ci := 12) (q := q0) hm dX11_tell_2 kX11_134 vX11_personAt rfl rfl (by decide) rfl h1 hdd hb (Nat.le_of_ble_eq_true rfl) (fun r G2 hz => ?_) hkx
  obtain ⟨y1, rfl, h⟩ := hk r G2 hz
  refine z_astore (pc' := 7) dX11_tell_5 (by decide) rfl ?_
  refine z_aload_n (pc' := 8) dX11_tell_7 rfl rfl ?_
  refine z_iload_n (pc' := 9) dX11_tell_8 rfl rfl ?_
  obtain ⟨h1, h⟩ := h
  obtain ⟨d1, b1, Qz, hm, hdd, hb, hkx, hk⟩ := h
  refine z_callV (Y := mX11_personAt) (n := 1) (as := [.int x2]) (st := []) (pc' := 12) (ci := 12) (q := q0) hm dX11_tell_9 kX11_134 vX11_personAt rfl rfl (by decide) rfl h1 hdd hb (Nat.le_of_ble_eq_true rfl) (fun r G5 hz => ?_) hkx
  obtain ⟨y4, rfl, h⟩ := hk r G5 hz
  refine z_astore (pc' := 14) dX11_tell_12 (by decide) rfl ?_
  refine z_iload_n (pc' := 15) dX11_tell_14 rfl rfl ?_
  refine z_iload_n (pc' := 16) dX11_tell_15 rfl rfl ?_
  refine z_icmp_eq (pt := 23) (pc' := 19) dX11_tell_16 (by decide) rfl (fun hc => ?_) (fun hc => ?_)
  · have h := h.1 hc
    refine z_iconst (x := 0) (pc' := 24) dX11_tell_23 (by decide) rfl ?_
    obtain ⟨d1, b1, Qz, hm, hdd, hb, hkx, hk⟩ := h
    refine z_callS (Y := mX11_demand) (n := 1) (as := [.int 0]) (st := []) (pc' := 27) hm dX11_tell_24 kX11_86 sX11_demand rfl rfl hdd hb (Nat.le_of_ble_eq_true rfl) (fun r G7 hz => ?_) hkx
    obtain ⟨rfl, h⟩ := hk r G7 hz
    refine z_aload (pc' := 29) dX11_tell_27 rfl rfl ?_
    refine z_aload (pc' := 31) dX11_tell_29 rfl rfl ?_
    refine z_iload_n (pc' := 32) dX11_tell_31 rfl rfl ?_
    refine z_if_eq (pt := 39) (pc' := 35) dX11_tell_32 (by decide) rfl (fun hc => ?_) (fun hc => ?_)
    · have h := h.1 hc
      refine z_iconst (x := 2) (pc' := 40) dX11_tell_39 (by decide) rfl ?_
      exact z_dr (ls' := [some (.ref q0), none, none, some (.int x3), some (.ref y1), some (.ref y4)]) ⟨rfl, rfl, rfl, rfl, trivial⟩ h
    · have h := h.2 hc
      refine z_iconst (x := 1) (pc' := 36) dX11_tell_35 (by decide) rfl ?_
      refine z_goto (pc' := 40) dX11_tell_36 (by decide) ?_
      exact z_dr (ls' := [some (.ref q0), none, none, some (.int x3), some (.ref y1), some (.ref y4)]) ⟨rfl, rfl, rfl, rfl, trivial⟩ h
  · have h := h.2 hc
    refine z_iconst (x := 1) (pc' := 20) dX11_tell_19 (by decide) rfl ?_
    refine z_goto (pc' := 24) dX11_tell_20 (by decide) ?_
    obtain ⟨d1, b1, Qz, hm, hdd, hb, hkx, hk⟩ := h
    refine z_callS (Y := mX11_demand) (n := 1) (as := [.int 1]) (st := []) (pc' := 27) hm dX11_tell_24 kX11_86 sX11_demand rfl rfl hdd hb (Nat.le_of_ble_eq_true rfl) (fun r G9 hz => ?_) hkx
    obtain ⟨rfl, h⟩ := hk r G9 hz
    refine z_aload (pc' := 29) dX11_tell_27 rfl rfl ?_
    refine z_aload (pc' := 31) dX11_tell_29 rfl rfl ?_
    refine z_iload_n (pc' := 32) dX11_tell_31 rfl rfl ?_
    refine z_if_eq (pt := 39) (pc' := 35) dX11_tell_32 (by decide) rfl (fun hc => ?_) (fun hc => ?_)
    · have h := h.1 hc
      refine z_iconst (x := 2) (pc' := 40) dX11_tell_39 (by decide) rfl ?_
      exact z_dr (ls' := [some (.ref q0), none, none, some (.int x3), some (.ref y1), some (.ref y4)]) ⟨rfl, rfl, rfl, rfl, trivial⟩ h
    · have h := h.2 hc
      refine z_iconst (x := 1) (pc' := 36) dX11_tell_35 (by decide) rfl ?_
      refine z_goto (pc' := 40) dX11_tell_36 (by decide) ?_
      exact z_dr (ls' := [some (.ref q0), none, none, some (.int x3), some (.ref y1), some (.ref y4)]) ⟨rfl, rfl, rfl, rfl, trivial⟩ h
def wp_X11_tell_40 (E : ZE) (l : Launch) (d b : Nat) (G0 : ZG) (Q : ZQ) (k : Nat) (q0 : Nat) (x3 : Int32) (q4 : Nat) (q5 : Nat) (s0 : Int32) (p1 : Nat) (p2 : Nat) (G : ZG) : Prop :=
  zob G p2 9 ∧
  xcV E l mX8_putTold d [.ref p2, .ref p1, .int s0] G k (fun X G9 => Q (.inr X) G9) (fun G1 k2 =>
  ((x3 = 0 →
    zob G1 q5 9 ∧
    xcV E l mX8_putTold d [.ref q5, .ref q4, .int 2] G1 k2 (fun X G9 => Q (.inr X) G9) (fun G3 k4 =>
    zob G3 q0 12 ∧
    zob G3 (zrv G3 q0 8) 7 ∧
    xcI E l mX6_checkHeldAgain d [.ref (zrv G3 q0 8)] G3 k4 (fun X G9 => Q (.inr X) G9) (fun y5 G6 k7 =>
    Q (.inl (some (.int y5))) G6))) ∧
  (¬ (x3 = 0) →
    zob G1 q5 9 ∧
    xcV E l mX8_putTold d [.ref q5, .ref q4, .int 1] G1 k2 (fun X G9 => Q (.inr X) G9) (fun G8 k9 =>
    zob G8 q0 12 ∧
    zob G8 (zrv G8 q0 8) 7 ∧
    xcI E l mX6_checkHeldAgain d [.ref (zrv G8 q0 8)] G8 k9 (fun X G9 => Q (.inr X) G9) (fun y10 G11 k12 =>
    Q (.inl (some (.int y10))) G11)))))
theorem wpt_X11_tell_40 {E : ZE} {l : Launch} {d b : Nat} {G0 : ZG} {Q : ZQ} {k : Nat} {q0 : Nat} {x3 : Int32} {q4 : Nat} {q5 : Nat} {s0 : Int32} {p1 : Nat} {p2 : Nat} {G : ZG} (h : wp_X11_tell_40 E l d b G0 Q k q0 x3 q4 q5 s0 p1 p2 G) : zW E l mX11_tell d b G0 Q k 40 [some (.ref q0), none, none, some (.int x3), some (.ref q4), some (.ref q5)] [.int s0, .ref p1, .ref p2] G := by
  unfold wp_X11_tell_40 at h
  obtain ⟨h1, h⟩ := h
  obtain ⟨d1, b1, Qz, hm, hdd, hb, hkx, hk⟩ := h
  refine z_callV (Y := mX8_putTold) (n := 2) (as := [.ref p1, .int s0]) (st := []) (pc' := 43) (ci := 9) (q := p2) hm dX11_tell_40 kX11_163 vX8_putTold rfl rfl (by decide) rfl h1 hdd hb (Nat.le_of_ble_eq_true rfl) (fun r G1 hz => ?_) hkx
  obtain ⟨rfl, h⟩ := hk r G1 hz
  refine z_aload (pc' := 45) dX11_tell_43 rfl rfl ?_
  refine z_aload (pc' := 47) dX11_tell_45 rfl rfl ?_
  refine z_iload_n (pc' := 48) dX11_tell_47 rfl rfl ?_
  refine z_if_eq (pt := 55) (pc' := 51) dX11_tell_48 (by decide) rfl (fun hc => ?_) (fun hc => ?_)
  · have h := h.1 hc
    refine z_iconst (x := 2) (pc' := 56) dX11_tell_55 (by decide) rfl ?_
    obtain ⟨h1, h⟩ := h
    obtain ⟨d1, b1, Qz, hm, hdd, hb, hkx, hk⟩ := h
    refine z_callV (Y := mX8_putTold) (n := 2) (as := [.ref q4, .int 2]) (st := []) (pc' := 59) (ci := 9) (q := q5) hm dX11_tell_56 kX11_163 vX8_putTold rfl rfl (by decide) rfl h1 hdd hb (Nat.le_of_ble_eq_true rfl) (fun r G3 hz => ?_) hkx
    obtain ⟨rfl, h⟩ := hk r G3 hz
    refine z_aload_n (pc' := 60) dX11_tell_59 rfl rfl ?_
    obtain ⟨h1, h⟩ := h
    refine z_getR (ci := 12) (kf := 8) (pc' := 63) dX11_tell_60 kX11_62 (Or.inl rfl) (by decide) (by decide) rfl rfl h1 ?_
    obtain ⟨h1, h⟩ := h
    obtain ⟨d1, b1, Qz, hm, hdd, hb, hkx, hk⟩ := h
    refine z_callV (Y := mX6_checkHeldAgain) (n := 0) (as := []) (st := []) (pc' := 66) (ci := 7) (q := (zrv G3 q0 8)) hm dX11_tell_63 kX11_167 vX6_checkHeldAgain rfl rfl (by decide) rfl h1 hdd hb (Nat.le_of_ble_eq_true rfl) (fun r G6 hz => ?_) hkx
    obtain ⟨y5, rfl, h⟩ := hk r G6 hz
    exact z_iret dX11_tell_66 rfl h
  · have h := h.2 hc
    refine z_iconst (x := 1) (pc' := 52) dX11_tell_51 (by decide) rfl ?_
    refine z_goto (pc' := 56) dX11_tell_52 (by decide) ?_
    obtain ⟨h1, h⟩ := h
    obtain ⟨d1, b1, Qz, hm, hdd, hb, hkx, hk⟩ := h
    refine z_callV (Y := mX8_putTold) (n := 2) (as := [.ref q4, .int 1]) (st := []) (pc' := 59) (ci := 9) (q := q5) hm dX11_tell_56 kX11_163 vX8_putTold rfl rfl (by decide) rfl h1 hdd hb (Nat.le_of_ble_eq_true rfl) (fun r G8 hz => ?_) hkx
    obtain ⟨rfl, h⟩ := hk r G8 hz
    refine z_aload_n (pc' := 60) dX11_tell_59 rfl rfl ?_
    obtain ⟨h1, h⟩ := h
    refine z_getR (ci := 12) (kf := 8) (pc' := 63) dX11_tell_60 kX11_62 (Or.inl rfl) (by decide) (by decide) rfl rfl h1 ?_
    obtain ⟨h1, h⟩ := h
    obtain ⟨d1, b1, Qz, hm, hdd, hb, hkx, hk⟩ := h
    refine z_callV (Y := mX6_checkHeldAgain) (n := 0) (as := []) (st := []) (pc' := 66) (ci := 7) (q := (zrv G8 q0 8)) hm dX11_tell_63 kX11_167 vX6_checkHeldAgain rfl rfl (by decide) rfl h1 hdd hb (Nat.le_of_ble_eq_true rfl) (fun r G11 hz => ?_) hkx
    obtain ⟨y10, rfl, h⟩ := hk r G11 hz
    exact z_iret dX11_tell_66 rfl h
def wp_X11_units_0 (E : ZE) (l : Launch) (d b : Nat) (G0 : ZG) (Q : ZQ) (k : Nat) (q0 : Nat) (x1 : Int32) (x2 : Int32) (G : ZG) : Prop :=
  xcV E l mX11_checkDesk d [.int x1] G k (fun X G9 => Q (.inr X) G9) (fun G1 k2 =>
  zob G1 q0 12 ∧
  zob G1 (zrv G1 q0 6) 3 ∧
  xcI E l mX2_unitsOn d [.ref (zrv G1 q0 6), .int x1, .int x2] G1 k2 (fun X G9 => Q (.inr X) G9) (fun y3 G4 k5 =>
  Q (.inl (some (.int y3))) G4))
theorem wpt_X11_units_0 {E : ZE} {l : Launch} {d b : Nat} {G0 : ZG} {Q : ZQ} {k : Nat} {q0 : Nat} {x1 : Int32} {x2 : Int32} {G : ZG} (h : wp_X11_units_0 E l d b G0 Q k q0 x1 x2 G) : zW E l mX11_units d b G0 Q k 0 [some (.ref q0), some (.int x1), some (.int x2)] [] G := by
  unfold wp_X11_units_0 at h
  refine z_iload_n (pc' := 1) dX11_units_0 rfl rfl ?_
  obtain ⟨d1, b1, Qz, hm, hdd, hb, hkx, hk⟩ := h
  refine z_callS (Y := mX11_checkDesk) (n := 1) (as := [.int x1]) (st := []) (pc' := 4) hm dX11_units_1 kX11_291 sX11_checkDesk rfl rfl hdd hb (Nat.le_of_ble_eq_true rfl) (fun r G1 hz => ?_) hkx
  obtain ⟨rfl, h⟩ := hk r G1 hz
  refine z_aload_n (pc' := 5) dX11_units_4 rfl rfl ?_
  obtain ⟨h1, h⟩ := h
  refine z_getR (ci := 12) (kf := 6) (pc' := 8) dX11_units_5 kX11_46 (Or.inl rfl) (by decide) (by decide) rfl rfl h1 ?_
  refine z_iload_n (pc' := 9) dX11_units_8 rfl rfl ?_
  refine z_iload_n (pc' := 10) dX11_units_9 rfl rfl ?_
  obtain ⟨h1, h⟩ := h
  obtain ⟨d1, b1, Qz, hm, hdd, hb, hkx, hk⟩ := h
  refine z_callV (Y := mX2_unitsOn) (n := 2) (as := [.int x1, .int x2]) (st := []) (pc' := 13) (ci := 3) (q := (zrv G1 q0 6)) hm dX11_units_10 kX11_306 vX2_unitsOn rfl rfl (by decide) rfl h1 hdd hb (Nat.le_of_ble_eq_true rfl) (fun r G4 hz => ?_) hkx
  obtain ⟨y3, rfl, h⟩ := hk r G4 hz
  exact z_iret dX11_units_13 rfl h
def wp_X11_useTapeUp_0 (E : ZE) (l : Launch) (d b : Nat) (G0 : ZG) (Q : ZQ) (k : Nat) (q0 : Nat) (G : ZG) : Prop :=
  zob G q0 12 ∧
  zob G q0 12 ∧
  xcR E l mJ7_copyOf_59c91 d [.ref (zrv G q0 0), .int (ziv G q0 1)] G k (fun X G9 => Q (.inr X) G9) (fun y1 G2 k3 =>
  zob G2 q0 12 ∧
  ∀ G4, G4 = zsi G2 q0 1 0 →
  Q (.inl (some (.ref y1))) G4)
theorem wpt_X11_useTapeUp_0 {E : ZE} {l : Launch} {d b : Nat} {G0 : ZG} {Q : ZQ} {k : Nat} {q0 : Nat} {G : ZG} (h : wp_X11_useTapeUp_0 E l d b G0 Q k q0 G) : zW E l mX11_useTapeUp d b G0 Q k 0 [some (.ref q0), none] [] G := by
  unfold wp_X11_useTapeUp_0 at h
  refine z_aload_n (pc' := 1) dX11_useTapeUp_0 rfl rfl ?_
  obtain ⟨h1, h⟩ := h
  refine z_getR (ci := 12) (kf := 0) (pc' := 4) dX11_useTapeUp_1 kX11_9 (Or.inl rfl) (by decide) (by decide) rfl rfl h1 ?_
  refine z_aload_n (pc' := 5) dX11_useTapeUp_4 rfl rfl ?_
  obtain ⟨h1, h⟩ := h
  refine z_getI (ci := 12) (kf := 1) (pc' := 8) dX11_useTapeUp_5 kX11_13 (Or.inl rfl) (by decide) (by decide) rfl rfl h1 ?_
  obtain ⟨d1, b1, Qz, hm, hdd, hb, hkx, hk⟩ := h
  refine z_callS (Y := mJ7_copyOf_59c91) (n := 2) (as := [.ref (zrv G q0 0), .int (ziv G q0 1)]) (st := []) (pc' := 11) hm dX11_useTapeUp_8 kX11_73 sJ7_copyOf_59c91 rfl rfl hdd hb (Nat.le_of_ble_eq_true rfl) (fun r G2 hz => ?_) hkx
  obtain ⟨y1, rfl, h⟩ := hk r G2 hz
  refine z_astore_n (pc' := 12) dX11_useTapeUp_11 (by decide) rfl ?_
  refine z_aload_n (pc' := 13) dX11_useTapeUp_12 rfl rfl ?_
  refine z_iconst (x := 0) (pc' := 14) dX11_useTapeUp_13 (by decide) rfl ?_
  obtain ⟨h1, h⟩ := h
  obtain ⟨G4, hG⟩ : ∃ z, z = zsi G2 q0 1 0 := ⟨_, rfl⟩
  have h := h _ hG
  refine z_putI (ci := 12) (kf := 1) (pc' := 17) dX11_useTapeUp_14 kX11_13 (Or.inl rfl) (by decide) (by decide) rfl (Or.inl rfl) rfl h1 (zok_int _) ?_
  refine z_st hG ?_
  refine z_aload_n (pc' := 18) dX11_useTapeUp_17 rfl rfl ?_
  exact z_aret dX11_useTapeUp_18 rfl (Or.inr ⟨_, rfl⟩) h
def wp_X11_valid_0 (E : ZE) (l : Launch) (d b : Nat) (G0 : ZG) (Q : ZQ) (k : Nat) (q0 : Nat) (x1 : Int32) (x2 : Int32) (G : ZG) : Prop :=
  zob G q0 12 ∧
  zob G q0 12 ∧
  xcR E l mX11_personAt d [.ref q0, .int x1] G k (fun X G9 => Q (.inr X) G9) (fun y1 G2 k3 =>
  zob G2 (zrv G q0 8) 7 ∧
  xcI E l mX6_validOf d [.ref (zrv G q0 8), .ref y1, .int x2] G2 k3 (fun X G9 => Q (.inr X) G9) (fun y4 G5 k6 =>
  Q (.inl (some (.int y4))) G5))
theorem wpt_X11_valid_0 {E : ZE} {l : Launch} {d b : Nat} {G0 : ZG} {Q : ZQ} {k : Nat} {q0 : Nat} {x1 : Int32} {x2 : Int32} {G : ZG} (h : wp_X11_valid_0 E l d b G0 Q k q0 x1 x2 G) : zW E l mX11_valid d b G0 Q k 0 [some (.ref q0), some (.int x1), some (.int x2)] [] G := by
  unfold wp_X11_valid_0 at h
  refine z_aload_n (pc' := 1) dX11_valid_0 rfl rfl ?_
  obtain ⟨h1, h⟩ := h
  refine z_getR (ci := 12) (kf := 8) (pc' := 4) dX11_valid_1 kX11_62 (Or.inl rfl) (by decide) (by decide) rfl rfl h1 ?_
  refine z_aload_n (pc' := 5) dX11_valid_4 rfl rfl ?_
  refine z_iload_n (pc' := 6) dX11_valid_5 rfl rfl ?_
  obtain ⟨h1, h⟩ := h
  obtain ⟨d1, b1, Qz, hm, hdd, hb, hkx, hk⟩ := h
  refine z_callV (Y := mX11_personAt) (n := 1) (as := [.int x1]) (st := [.ref (zrv G q0 8)]) (pc' := 9) (ci := 12) (q := q0) hm dX11_valid_6 kX11_134 vX11_personAt rfl rfl (by decide) rfl h1 hdd hb (Nat.le_of_ble_eq_true rfl) (fun r G2 hz => ?_) hkx
  obtain ⟨y1, rfl, h⟩ := hk r G2 hz
  refine z_iload_n (pc' := 10) dX11_valid_9 rfl rfl ?_
  obtain ⟨h1, h⟩ := h
  obtain ⟨d1, b1, Qz, hm, hdd, hb, hkx, hk⟩ := h
  refine z_callV (Y := mX6_validOf) (n := 2) (as := [.ref y1, .int x2]) (st := []) (pc' := 13) (ci := 7) (q := (zrv G q0 8)) hm dX11_valid_10 kX11_211 vX6_validOf rfl rfl (by decide) rfl h1 hdd hb (Nat.le_of_ble_eq_true rfl) (fun r G5 hz => ?_) hkx
  obtain ⟨y4, rfl, h⟩ := hk r G5 hz
  exact z_iret dX11_valid_13 rfl h
def wp_X11_waits_0 (E : ZE) (l : Launch) (d b : Nat) (G0 : ZG) (Q : ZQ) (k : Nat) (q0 : Nat) (x1 : Int32) (x2 : Int32) (G : ZG) : Prop :=
  xcI E l mX11_isKind d [.int x1] G k (fun X G9 => Q (.inr X) G9) (fun y1 G2 k3 =>
  xcV E l mX11_demand d [.int y1] G2 k3 (fun X G9 => Q (.inr X) G9) (fun G4 k5 =>
  zob G4 q0 12 ∧
  xcR E l mX11_latestWaits d [.ref q0, .int x1] G4 k5 (fun X G9 => Q (.inr X) G9) (fun y6 G7 k8 =>
  (zar G7 y6 0 ∨ zrd G7 y6 .int) ∧
  ((x2 = 0 →
    zW E l mX11_waits d b G0 Q k8 36 [none, none, none, some (.ref y6), none, none] [.int ((Int32.ofNat (zln G7 y6)) / 10)] G7) ∧
  (¬ (x2 = 0) →
    (zar G7 y6 0 ∨ zrd G7 y6 .int) ∧
    zW E l mX11_waits d b G0 Q k8 36 [none, none, none, some (.ref y6), none, none] [.int (((Int32.ofNat (zln G7 y6)) - 1) - ((Int32.ofNat (zln G7 y6)) / 10))] G7)))))
theorem wpt_X11_waits_0 {E : ZE} {l : Launch} {d b : Nat} {G0 : ZG} {Q : ZQ} {k : Nat} {q0 : Nat} {x1 : Int32} {x2 : Int32} {G : ZG} (h : wp_X11_waits_0 E l d b G0 Q k q0 x1 x2 G) : zW E l mX11_waits d b G0 Q k 0 [some (.ref q0), some (.int x1), some (.int x2), none, none, none] [] G := by
  unfold wp_X11_waits_0 at h
  refine z_iload_n (pc' := 1) dX11_waits_0 rfl rfl ?_
  obtain ⟨d1, b1, Qz, hm, hdd, hb, hkx, hk⟩ := h
  refine z_callS (Y := mX11_isKind) (n := 1) (as := [.int x1]) (st := []) (pc' := 4) hm dX11_waits_1 kX11_170 sX11_isKind rfl rfl hdd hb (Nat.le_of_ble_eq_true rfl) (fun r G2 hz => ?_) hkx
  obtain ⟨y1, rfl, h⟩ := hk r G2 hz
  obtain ⟨d1, b1, Qz, hm, hdd, hb, hkx, hk⟩ := h
  refine z_callS (Y := mX11_demand) (n := 1) (as := [.int y1]) (st := []) (pc' := 7) hm dX11_waits_4 kX11_86 sX11_demand rfl rfl hdd hb (Nat.le_of_ble_eq_true rfl) (fun r G4 hz => ?_) hkx
  obtain ⟨rfl, h⟩ := hk r G4 hz
  refine z_aload_n (pc' := 8) dX11_waits_7 rfl rfl ?_
  refine z_iload_n (pc' := 9) dX11_waits_8 rfl rfl ?_
  obtain ⟨h1, h⟩ := h
  obtain ⟨d1, b1, Qz, hm, hdd, hb, hkx, hk⟩ := h
  refine z_callV (Y := mX11_latestWaits) (n := 1) (as := [.int x1]) (st := []) (pc' := 12) (ci := 12) (q := q0) hm dX11_waits_9 kX11_380 vX11_latestWaits rfl rfl (by decide) rfl h1 hdd hb (Nat.le_of_ble_eq_true rfl) (fun r G7 hz => ?_) hkx
  obtain ⟨y6, rfl, h⟩ := hk r G7 hz
  refine z_astore_n (pc' := 13) dX11_waits_12 (by decide) rfl ?_
  refine z_aload_n (pc' := 14) dX11_waits_13 rfl rfl ?_
  obtain ⟨h1, h⟩ := h
  refine z_alen (pc' := 15) dX11_waits_14 rfl (h1.imp (fun h => ⟨0, by decide, h⟩) (fun h => ⟨_, h⟩)) rfl ?_
  refine z_bipush (x := 10) (pc' := 17) dX11_waits_15 (by decide) rfl ?_
  refine z_idiv (pc' := 18) dX11_waits_17 (by decide) rfl rfl ?_
  refine z_istore (pc' := 20) dX11_waits_18 (by decide) rfl ?_
  refine z_iload_n (pc' := 21) dX11_waits_20 rfl rfl ?_
  refine z_if_eq (pt := 34) (pc' := 24) dX11_waits_21 (by decide) rfl (fun hc => ?_) (fun hc => ?_)
  · have h := h.1 hc
    refine z_iload (pc' := 36) dX11_waits_34 rfl rfl ?_
    exact z_dr (ls' := [none, none, none, some (.ref y6), none, none]) ⟨rfl, trivial⟩ h
  · have h := h.2 hc
    refine z_aload_n (pc' := 25) dX11_waits_24 rfl rfl ?_
    obtain ⟨h1, h⟩ := h
    refine z_alen (pc' := 26) dX11_waits_25 rfl (h1.imp (fun h => ⟨0, by decide, h⟩) (fun h => ⟨_, h⟩)) rfl ?_
    refine z_iconst (x := 1) (pc' := 27) dX11_waits_26 (by decide) rfl ?_
    refine z_isub (pc' := 28) dX11_waits_27 rfl rfl ?_
    refine z_iload (pc' := 30) dX11_waits_28 rfl rfl ?_
    refine z_isub (pc' := 31) dX11_waits_30 rfl rfl ?_
    refine z_goto (pc' := 36) dX11_waits_31 (by decide) ?_
    exact z_dr (ls' := [none, none, none, some (.ref y6), none, none]) ⟨rfl, trivial⟩ h
def wp_X11_waits_36 (E : ZE) (l : Launch) (d b : Nat) (G0 : ZG) (Q : ZQ) (k : Nat) (q3 : Nat) (s0 : Int32) (G : ZG) : Prop :=
  ((s0 < 0 →
    Q (.inl (some (.int (-1)))) G) ∧
  (¬ (s0 < 0) →
    (zar G q3 0 ∨ zrd G q3 .int) ∧
    (((Int32.ofNat (zln G q3)) ≤ s0 →
      Q (.inl (some (.int (-1)))) G) ∧
    (¬ ((Int32.ofNat (zln G q3)) ≤ s0) →
      (zar G q3 0 ∨ zrd G q3 .int) ∧ vp_in s0 (zln G q3) ∧
      Q (.inl (some (.int (ziv G q3 s0.toNatClampNeg)))) G))))
theorem wpt_X11_waits_36 {E : ZE} {l : Launch} {d b : Nat} {G0 : ZG} {Q : ZQ} {k : Nat} {q3 : Nat} {s0 : Int32} {G : ZG} (h : wp_X11_waits_36 E l d b G0 Q k q3 s0 G) : zW E l mX11_waits d b G0 Q k 36 [none, none, none, some (.ref q3), none, none] [.int s0] G := by
  unfold wp_X11_waits_36 at h
  refine z_istore (pc' := 38) dX11_waits_36 (by decide) rfl ?_
  refine z_iload (pc' := 40) dX11_waits_38 rfl rfl ?_
  refine z_if_lt (pt := 57) (pc' := 43) dX11_waits_40 (by decide) rfl (fun hc => ?_) (fun hc => ?_)
  · have h := h.1 hc
    refine z_iconst (x := (-1)) (pc' := 58) dX11_waits_57 (by decide) rfl ?_
    exact z_iret dX11_waits_58 rfl h
  · have h := h.2 hc
    refine z_iload (pc' := 45) dX11_waits_43 rfl rfl ?_
    refine z_aload_n (pc' := 46) dX11_waits_45 rfl rfl ?_
    obtain ⟨h1, h⟩ := h
    refine z_alen (pc' := 47) dX11_waits_46 rfl (h1.imp (fun h => ⟨0, by decide, h⟩) (fun h => ⟨_, h⟩)) rfl ?_
    refine z_icmp_ge (pt := 57) (pc' := 50) dX11_waits_47 (by decide) rfl (fun hc => ?_) (fun hc => ?_)
    · have h := h.1 hc
      refine z_iconst (x := (-1)) (pc' := 58) dX11_waits_57 (by decide) rfl ?_
      exact z_iret dX11_waits_58 rfl h
    · have h := h.2 hc
      refine z_aload_n (pc' := 51) dX11_waits_50 rfl rfl ?_
      refine z_iload (pc' := 53) dX11_waits_51 rfl rfl ?_
      obtain ⟨h1, h2, h⟩ := h
      refine z_iald (pc' := 54) dX11_waits_53 rfl h1 h2 ?_
      refine z_goto (pc' := 58) dX11_waits_54 (by decide) ?_
      exact z_iret dX11_waits_58 rfl h
def wp_X1_copyFrom_0 (E : ZE) (l : Launch) (d b : Nat) (G0 : ZG) (Q : ZQ) (k : Nat) (q0 : Nat) (q1 : Nat) (G : ZG) : Prop :=
  zob G q1 2 ∧
  zob G q0 2 ∧
  ∀ G1, G1 = zsi G q0 0 (ziv G q1 0) →
  zob G1 q1 2 ∧
  zob G1 q0 2 ∧
  ∀ G2, G2 = zsi G1 q0 1 (ziv G1 q1 1) →
  zob G2 q1 2 ∧
  zob G2 q0 2 ∧
  ∀ G3, G3 = zsi G2 q0 2 (ziv G2 q1 2) →
  zob G3 q1 2 ∧
  zob G3 q0 2 ∧
  ∀ G4, G4 = zsi G3 q0 3 (ziv G3 q1 3) →
  Q (.inl none) G4
theorem wpt_X1_copyFrom_0 {E : ZE} {l : Launch} {d b : Nat} {G0 : ZG} {Q : ZQ} {k : Nat} {q0 : Nat} {q1 : Nat} {G : ZG} (h : wp_X1_copyFrom_0 E l d b G0 Q k q0 q1 G) : zW E l mX1_copyFrom d b G0 Q k 0 [some (.ref q0), some (.ref q1)] [] G := by
  unfold wp_X1_copyFrom_0 at h
  refine z_aload_n (pc' := 1) dX1_copyFrom_0 rfl rfl ?_
  refine z_aload_n (pc' := 2) dX1_copyFrom_1 rfl rfl ?_
  obtain ⟨h1, h⟩ := h
  refine z_getI (ci := 2) (kf := 0) (pc' := 5) dX1_copyFrom_2 kX1_9 (Or.inl rfl) (by decide) (by decide) rfl rfl h1 ?_
  obtain ⟨h1, h⟩ := h
  obtain ⟨G1, hG⟩ : ∃ z, z = zsi G q0 0 (ziv G q1 0) := ⟨_, rfl⟩
  have h := h _ hG
  refine z_putI (ci := 2) (kf := 0) (pc' := 8) dX1_copyFrom_5 kX1_9 (Or.inl rfl) (by decide) (by decide) rfl (Or.inl rfl) rfl h1 (zok_int _) ?_
  refine z_st hG ?_
  refine z_aload_n (pc' := 9) dX1_copyFrom_8 rfl rfl ?_
  refine z_aload_n (pc' := 10) dX1_copyFrom_9 rfl rfl ?_
  obtain ⟨h1, h⟩ := h
  refine z_getI (ci := 2) (kf := 1) (pc' := 13) dX1_copyFrom_10 kX1_15 (Or.inl rfl) (by decide) (by decide) rfl rfl h1 ?_
  obtain ⟨h1, h⟩ := h
  obtain ⟨G2, hG⟩ : ∃ z, z = zsi G1 q0 1 (ziv G1 q1 1) := ⟨_, rfl⟩
  have h := h _ hG
  refine z_putI (ci := 2) (kf := 1) (pc' := 16) dX1_copyFrom_13 kX1_15 (Or.inl rfl) (by decide) (by decide) rfl (Or.inl rfl) rfl h1 (zok_int _) ?_
  refine z_st hG ?_
  refine z_aload_n (pc' := 17) dX1_copyFrom_16 rfl rfl ?_
  refine z_aload_n (pc' := 18) dX1_copyFrom_17 rfl rfl ?_
  obtain ⟨h1, h⟩ := h
  refine z_getI (ci := 2) (kf := 2) (pc' := 21) dX1_copyFrom_18 kX1_18 (Or.inl rfl) (by decide) (by decide) rfl rfl h1 ?_
  obtain ⟨h1, h⟩ := h
  obtain ⟨G3, hG⟩ : ∃ z, z = zsi G2 q0 2 (ziv G2 q1 2) := ⟨_, rfl⟩
  have h := h _ hG
  refine z_putI (ci := 2) (kf := 2) (pc' := 24) dX1_copyFrom_21 kX1_18 (Or.inl rfl) (by decide) (by decide) rfl (Or.inl rfl) rfl h1 (zok_int _) ?_
  refine z_st hG ?_
  refine z_aload_n (pc' := 25) dX1_copyFrom_24 rfl rfl ?_
  refine z_aload_n (pc' := 26) dX1_copyFrom_25 rfl rfl ?_
  obtain ⟨h1, h⟩ := h
  refine z_getI (ci := 2) (kf := 3) (pc' := 29) dX1_copyFrom_26 kX1_21 (Or.inl rfl) (by decide) (by decide) rfl rfl h1 ?_
  obtain ⟨h1, h⟩ := h
  obtain ⟨G4, hG⟩ : ∃ z, z = zsi G3 q0 3 (ziv G3 q1 3) := ⟨_, rfl⟩
  have h := h _ hG
  refine z_putI (ci := 2) (kf := 3) (pc' := 32) dX1_copyFrom_29 kX1_21 (Or.inl rfl) (by decide) (by decide) rfl (Or.inl rfl) rfl h1 (zok_int _) ?_
  refine z_st hG ?_
  exact z_vret dX1_copyFrom_32 rfl h
def wp_X1_init_0 (E : ZE) (l : Launch) (d b : Nat) (G0 : ZG) (Q : ZQ) (k : Nat) (q0 : Nat) (G : ZG) : Prop :=
  zal G q0 ∧ 1 ≤ d ∧
  zob G q0 2 ∧
  ∀ G1, G1 = zsi G q0 0 (-1) →
  zob G1 q0 2 ∧
  ∀ G2, G2 = zsi G1 q0 1 0 →
  zob G2 q0 2 ∧
  ∀ G3, G3 = zsi G2 q0 2 0 →
  zob G3 q0 2 ∧
  ∀ G4, G4 = zsi G3 q0 3 (-1) →
  Q (.inl none) G4
theorem wpt_X1_init_0 {E : ZE} {l : Launch} {d b : Nat} {G0 : ZG} {Q : ZQ} {k : Nat} {q0 : Nat} {G : ZG} (h : wp_X1_init_0 E l d b G0 Q k q0 G) : zW E l mX1_init d b G0 Q k 0 [some (.ref q0)] [] G := by
  unfold wp_X1_init_0 at h
  refine z_aload_n (pc' := 1) dX1_init_0 rfl rfl ?_
  obtain ⟨h1, h2, h⟩ := h
  refine z_objInit (pc' := 4) dX1_init_1 kX1_3 o_inst o_code rfl h2 h1 (Nat.le_of_ble_eq_true rfl) ?_
  refine z_aload_n (pc' := 5) dX1_init_4 rfl rfl ?_
  refine z_iconst (x := (-1)) (pc' := 6) dX1_init_5 (by decide) rfl ?_
  obtain ⟨h1, h⟩ := h
  obtain ⟨G1, hG⟩ : ∃ z, z = zsi G q0 0 (-1) := ⟨_, rfl⟩
  have h := h _ hG
  refine z_putI (ci := 2) (kf := 0) (pc' := 9) dX1_init_6 kX1_9 (Or.inl rfl) (by decide) (by decide) rfl (Or.inl rfl) rfl h1 (zok_int _) ?_
  refine z_st hG ?_
  refine z_aload_n (pc' := 10) dX1_init_9 rfl rfl ?_
  refine z_iconst (x := 0) (pc' := 11) dX1_init_10 (by decide) rfl ?_
  obtain ⟨h1, h⟩ := h
  obtain ⟨G2, hG⟩ : ∃ z, z = zsi G1 q0 1 0 := ⟨_, rfl⟩
  have h := h _ hG
  refine z_putI (ci := 2) (kf := 1) (pc' := 14) dX1_init_11 kX1_15 (Or.inl rfl) (by decide) (by decide) rfl (Or.inl rfl) rfl h1 (zok_int _) ?_
  refine z_st hG ?_
  refine z_aload_n (pc' := 15) dX1_init_14 rfl rfl ?_
  refine z_iconst (x := 0) (pc' := 16) dX1_init_15 (by decide) rfl ?_
  obtain ⟨h1, h⟩ := h
  obtain ⟨G3, hG⟩ : ∃ z, z = zsi G2 q0 2 0 := ⟨_, rfl⟩
  have h := h _ hG
  refine z_putI (ci := 2) (kf := 2) (pc' := 19) dX1_init_16 kX1_18 (Or.inl rfl) (by decide) (by decide) rfl (Or.inl rfl) rfl h1 (zok_int _) ?_
  refine z_st hG ?_
  refine z_aload_n (pc' := 20) dX1_init_19 rfl rfl ?_
  refine z_iconst (x := (-1)) (pc' := 21) dX1_init_20 (by decide) rfl ?_
  obtain ⟨h1, h⟩ := h
  obtain ⟨G4, hG⟩ : ∃ z, z = zsi G3 q0 3 (-1) := ⟨_, rfl⟩
  have h := h _ hG
  refine z_putI (ci := 2) (kf := 3) (pc' := 24) dX1_init_21 kX1_21 (Or.inl rfl) (by decide) (by decide) rfl (Or.inl rfl) rfl h1 (zok_int _) ?_
  refine z_st hG ?_
  exact z_vret dX1_init_24 rfl h
def wp_X1_isValidOn_0 (E : ZE) (l : Launch) (d b : Nat) (G0 : ZG) (Q : ZQ) (k : Nat) (q0 : Nat) (x1 : Int32) (G : ZG) : Prop :=
  zob G q0 2 ∧
  ((x1 < (ziv G q0 1) →
    Q (.inl (some (.int 0))) G) ∧
  (¬ (x1 < (ziv G q0 1)) →
    zob G q0 2 ∧
    (((ziv G q0 2) ≤ x1 →
      Q (.inl (some (.int 0))) G) ∧
    (¬ ((ziv G q0 2) ≤ x1) →
      Q (.inl (some (.int 1))) G))))
theorem wpt_X1_isValidOn_0 {E : ZE} {l : Launch} {d b : Nat} {G0 : ZG} {Q : ZQ} {k : Nat} {q0 : Nat} {x1 : Int32} {G : ZG} (h : wp_X1_isValidOn_0 E l d b G0 Q k q0 x1 G) : zW E l mX1_isValidOn d b G0 Q k 0 [some (.ref q0), some (.int x1)] [] G := by
  unfold wp_X1_isValidOn_0 at h
  refine z_aload_n (pc' := 1) dX1_isValidOn_0 rfl rfl ?_
  obtain ⟨h1, h⟩ := h
  refine z_getI (ci := 2) (kf := 1) (pc' := 4) dX1_isValidOn_1 kX1_15 (Or.inl rfl) (by decide) (by decide) rfl rfl h1 ?_
  refine z_iload_n (pc' := 5) dX1_isValidOn_4 rfl rfl ?_
  refine z_icmp_gt (pt := 20) (pc' := 8) dX1_isValidOn_5 (by decide) rfl (fun hc => ?_) (fun hc => ?_)
  · have h := h.1 hc
    refine z_iconst (x := 0) (pc' := 21) dX1_isValidOn_20 (by decide) rfl ?_
    exact z_zret (ty := .boolean) dX1_isValidOn_21 rfl (by decide) h
  · have h := h.2 hc
    refine z_iload_n (pc' := 9) dX1_isValidOn_8 rfl rfl ?_
    refine z_aload_n (pc' := 10) dX1_isValidOn_9 rfl rfl ?_
    obtain ⟨h1, h⟩ := h
    refine z_getI (ci := 2) (kf := 2) (pc' := 13) dX1_isValidOn_10 kX1_18 (Or.inl rfl) (by decide) (by decide) rfl rfl h1 ?_
    refine z_icmp_ge (pt := 20) (pc' := 16) dX1_isValidOn_13 (by decide) rfl (fun hc => ?_) (fun hc => ?_)
    · have h := h.1 hc
      refine z_iconst (x := 0) (pc' := 21) dX1_isValidOn_20 (by decide) rfl ?_
      exact z_zret (ty := .boolean) dX1_isValidOn_21 rfl (by decide) h
    · have h := h.2 hc
      refine z_iconst (x := 1) (pc' := 17) dX1_isValidOn_16 (by decide) rfl ?_
      refine z_goto (pc' := 21) dX1_isValidOn_17 (by decide) ?_
      exact z_zret (ty := .boolean) dX1_isValidOn_21 rfl (by decide) h
def wp_X2_init_0 (E : ZE) (l : Launch) (d b : Nat) (G0 : ZG) (Q : ZQ) (k : Nat) (q0 : Nat) (G : ZG) : Prop :=
  zal G q0 ∧ 1 ≤ d ∧
  4 ≤ k ∧ ∃ t1, t1 ≠ 0 ∧ t1 < 448 ∧ t1 / 32 = 0 ∧
  ∀ q_2, q_2 = zp t1 (zcn G t1) → ∀ G3, G3 = znw G t1 0 → ∀ k4, k4 = k - 4 →
  zal G3 q_2 ∧
  xcV E l mJx4a65c_init_da8c8 d [.ref q_2] G3 k4 (fun X G9 => Q (.inr X) G9) (fun G5 k6 =>
  zob G5 q0 3 ∧
  ∀ G7, G7 = zsr G5 q0 0 q_2 →
  ¬ (4 : Int32) < 0 ∧ (4 : Int32).toNatClampNeg ≤ 67108864 ∧ (4 : Int32).toNatClampNeg + 1 ≤ k6 ∧ ∃ t8, 1024 ≤ t8 ∧ t8 < 3584 ∧ (t8 - 1024) / 512 = 0 ∧
  ∀ q_9, q_9 = zp t8 (zcn G7 t8) → ∀ G10, G10 = znw G7 t8 (4 : Int32).toNatClampNeg → ∀ k11, k11 = k6 - ((4 : Int32).toNatClampNeg + 1) →
  zar G10 q_9 0 ∧ vp_in 0 (zln G10 q_9) ∧
  ∀ G12, G12 = zsi G10 q_9 (0 : Int32).toNatClampNeg 1 →
  zar G12 q_9 0 ∧ vp_in 1 (zln G12 q_9) ∧
  ∀ G13, G13 = zsi G12 q_9 (1 : Int32).toNatClampNeg 1 →
  zar G13 q_9 0 ∧ vp_in 2 (zln G13 q_9) ∧
  ∀ G14, G14 = zsi G13 q_9 (2 : Int32).toNatClampNeg 1 →
  zar G14 q_9 0 ∧ vp_in 3 (zln G14 q_9) ∧
  ∀ G15, G15 = zsi G14 q_9 (3 : Int32).toNatClampNeg 1 →
  zob G15 q0 3 ∧
  ∀ G16, G16 = zsr G15 q0 1 q_9 →
  Q (.inl none) G16)
theorem wpt_X2_init_0 {E : ZE} {l : Launch} {d b : Nat} {G0 : ZG} {Q : ZQ} {k : Nat} {q0 : Nat} {G : ZG} (h : wp_X2_init_0 E l d b G0 Q k q0 G) : zW E l mX2_init d b G0 Q k 0 [some (.ref q0)] [] G := by
  unfold wp_X2_init_0 at h
  refine z_aload_n (pc' := 1) dX2_init_0 rfl rfl ?_
  obtain ⟨h1, h2, h⟩ := h
  refine z_objInit (pc' := 4) dX2_init_1 kX2_1 o_inst o_code rfl h2 h1 (Nat.le_of_ble_eq_true rfl) ?_
  refine z_aload_n (pc' := 5) dX2_init_4 rfl rfl ?_
  obtain ⟨h1, t1, h2, h3, h4, h⟩ := h
  obtain ⟨q_2, hq⟩ : ∃ z, z = zp t1 (zcn G t1) := ⟨_, rfl⟩
  obtain ⟨G3, hG⟩ : ∃ z, z = znw G t1 0 := ⟨_, rfl⟩
  have h := h _ hq _ hG _ rfl
  refine z_new (ci := 0) (t := t1) (pc' := 8) dX2_init_5 kX2_7 n0_inst n0_ini (by decide) rfl h2 h3 h4 h1 (z_df (by decide)) ?_
  refine z_mk hq hG ?_
  refine z_dup (pc' := 9) dX2_init_8 rfl rfl ?_
  obtain ⟨h1, h⟩ := h
  obtain ⟨d1, b1, Qz, hm, hdd, hb, hkx, hk⟩ := h
  refine z_callI (Y := mJx4a65c_init_da8c8) (n := 0) (as := []) (st := [.ref q_2, .ref q0]) (pc' := 12) (q := q_2) hm dX2_init_9 kX2_9 iJx4a65c_init_da8c8 rfl rfl h1 hdd hb (Nat.le_of_ble_eq_true rfl) (fun r G5 hz => ?_) hkx
  obtain ⟨rfl, h⟩ := hk r G5 hz
  obtain ⟨h1, h⟩ := h
  obtain ⟨G7, hG⟩ : ∃ z, z = zsr G5 q0 0 q_2 := ⟨_, rfl⟩
  have h := h _ hG
  refine z_putR (ci := 3) (kf := 0) (pc' := 15) dX2_init_12 kX2_10 (Or.inl rfl) (by decide) (by decide) rfl (Or.inr ⟨rfl, rfl⟩) rfl h1 ?_
  refine z_st hG ?_
  refine z_aload_n (pc' := 16) dX2_init_15 rfl rfl ?_
  refine z_iconst (x := 4) (pc' := 17) dX2_init_16 (by decide) rfl ?_
  obtain ⟨h1, h2, h3, t8, h4, h5, h6, h⟩ := h
  obtain ⟨q_9, hq⟩ : ∃ z, z = zp t8 (zcn G7 t8) := ⟨_, rfl⟩
  obtain ⟨G10, hG⟩ : ∃ z, z = znw G7 t8 (4 : Int32).toNatClampNeg := ⟨_, rfl⟩
  have h := h _ hq _ hG _ rfl
  refine z_newa (t := t8) (kd := 0) (pc' := 19) dX2_init_17 rfl (by decide) a_int rfl h4 h5 h6 h1 rfl h2 h3 ?_
  refine z_mk hq hG ?_
  refine z_dup (pc' := 20) dX2_init_19 rfl rfl ?_
  refine z_iconst (x := 0) (pc' := 21) dX2_init_20 (by decide) rfl ?_
  refine z_iconst (x := 1) (pc' := 22) dX2_init_21 (by decide) rfl ?_
  obtain ⟨h1, h2, h⟩ := h
  obtain ⟨G12, hG⟩ : ∃ z, z = zsi G10 q_9 (0 : Int32).toNatClampNeg 1 := ⟨_, rfl⟩
  have h := h _ hG
  refine z_iast (pc' := 23) dX2_init_22 rfl h1 h2  ?_
  refine z_st hG ?_
  refine z_dup (pc' := 24) dX2_init_23 rfl rfl ?_
  refine z_iconst (x := 1) (pc' := 25) dX2_init_24 (by decide) rfl ?_
  refine z_iconst (x := 1) (pc' := 26) dX2_init_25 (by decide) rfl ?_
  obtain ⟨h1, h2, h⟩ := h
  obtain ⟨G13, hG⟩ : ∃ z, z = zsi G12 q_9 (1 : Int32).toNatClampNeg 1 := ⟨_, rfl⟩
  have h := h _ hG
  refine z_iast (pc' := 27) dX2_init_26 rfl h1 h2  ?_
  refine z_st hG ?_
  refine z_dup (pc' := 28) dX2_init_27 rfl rfl ?_
  refine z_iconst (x := 2) (pc' := 29) dX2_init_28 (by decide) rfl ?_
  refine z_iconst (x := 1) (pc' := 30) dX2_init_29 (by decide) rfl ?_
  obtain ⟨h1, h2, h⟩ := h
  obtain ⟨G14, hG⟩ : ∃ z, z = zsi G13 q_9 (2 : Int32).toNatClampNeg 1 := ⟨_, rfl⟩
  have h := h _ hG
  refine z_iast (pc' := 31) dX2_init_30 rfl h1 h2  ?_
  refine z_st hG ?_
  refine z_dup (pc' := 32) dX2_init_31 rfl rfl ?_
  refine z_iconst (x := 3) (pc' := 33) dX2_init_32 (by decide) rfl ?_
  refine z_iconst (x := 1) (pc' := 34) dX2_init_33 (by decide) rfl ?_
  obtain ⟨h1, h2, h⟩ := h
  obtain ⟨G15, hG⟩ : ∃ z, z = zsi G14 q_9 (3 : Int32).toNatClampNeg 1 := ⟨_, rfl⟩
  have h := h _ hG
  refine z_iast (pc' := 35) dX2_init_34 rfl h1 h2  ?_
  refine z_st hG ?_
  obtain ⟨h1, h⟩ := h
  obtain ⟨G16, hG⟩ : ∃ z, z = zsr G15 q0 1 q_9 := ⟨_, rfl⟩
  have h := h _ hG
  refine z_putR (ci := 3) (kf := 1) (pc' := 38) dX2_init_35 kX2_16 (Or.inl rfl) (by decide) (by decide) rfl (Or.inr ⟨rfl, rfl⟩) rfl h1 ?_
  refine z_st hG ?_
  exact z_vret dX2_init_38 rfl h
def wp_X2_setHands_0 (E : ZE) (l : Launch) (d b : Nat) (G0 : ZG) (Q : ZQ) (k : Nat) (q0 : Nat) (x1 : Int32) (x2 : Int32) (G : ZG) : Prop :=
  ((x1 < 0 →
    Q (.inl none) G) ∧
  (¬ (x1 < 0) →
    ((4 ≤ x1 →
      Q (.inl none) G) ∧
    (¬ (4 ≤ x1) →
      zob G q0 3 ∧
      zar G (zrv G q0 1) 0 ∧ vp_in x1 (zln G (zrv G q0 1)) ∧
      ∀ G1, G1 = zsi G (zrv G q0 1) x1.toNatClampNeg x2 →
      Q (.inl none) G1))))
theorem wpt_X2_setHands_0 {E : ZE} {l : Launch} {d b : Nat} {G0 : ZG} {Q : ZQ} {k : Nat} {q0 : Nat} {x1 : Int32} {x2 : Int32} {G : ZG} (h : wp_X2_setHands_0 E l d b G0 Q k q0 x1 x2 G) : zW E l mX2_setHands d b G0 Q k 0 [some (.ref q0), some (.int x1), some (.int x2)] [] G := by
  unfold wp_X2_setHands_0 at h
  refine z_iload_n (pc' := 1) dX2_setHands_0 rfl rfl ?_
  refine z_if_lt (pt := 16) (pc' := 4) dX2_setHands_1 (by decide) rfl (fun hc => ?_) (fun hc => ?_)
  · have h := h.1 hc
    exact z_vret dX2_setHands_16 rfl h
  · have h := h.2 hc
    refine z_iload_n (pc' := 5) dX2_setHands_4 rfl rfl ?_
    refine z_iconst (x := 4) (pc' := 6) dX2_setHands_5 (by decide) rfl ?_
    refine z_icmp_ge (pt := 16) (pc' := 9) dX2_setHands_6 (by decide) rfl (fun hc => ?_) (fun hc => ?_)
    · have h := h.1 hc
      exact z_vret dX2_setHands_16 rfl h
    · have h := h.2 hc
      refine z_aload_n (pc' := 10) dX2_setHands_9 rfl rfl ?_
      obtain ⟨h1, h⟩ := h
      refine z_getR (ci := 3) (kf := 1) (pc' := 13) dX2_setHands_10 kX2_16 (Or.inl rfl) (by decide) (by decide) rfl rfl h1 ?_
      refine z_iload_n (pc' := 14) dX2_setHands_13 rfl rfl ?_
      refine z_iload_n (pc' := 15) dX2_setHands_14 rfl rfl ?_
      obtain ⟨h1, h2, h⟩ := h
      obtain ⟨G1, hG⟩ : ∃ z, z = zsi G (zrv G q0 1) x1.toNatClampNeg x2 := ⟨_, rfl⟩
      have h := h _ hG
      refine z_iast (pc' := 16) dX2_setHands_15 rfl h1 h2  ?_
      refine z_st hG ?_
      exact z_vret dX2_setHands_16 rfl h
def wp_X2_unitsOn_0 (E : ZE) (l : Launch) (d b : Nat) (G0 : ZG) (Q : ZQ) (k : Nat) (q0 : Nat) (x1 : Int32) (x2 : Int32) (G : ZG) : Prop :=
  ((x1 < 0 →
    Q (.inl (some (.int 0))) G) ∧
  (¬ (x1 < 0) →
    ((x1 < 4 →
      zob G q0 3 ∧
      (zar G (zrv G q0 1) 0 ∨ zrd G (zrv G q0 1) .int) ∧ vp_in x1 (zln G (zrv G q0 1)) ∧
      zW E l mX2_unitsOn d b G0 Q k 24 [some (.ref q0), some (.int x1), some (.int x2), some (.int ((ziv G (zrv G q0 1) x1.toNatClampNeg) * 8)), some (.int 0), none] [] G) ∧
    (¬ (x1 < 4) →
      Q (.inl (some (.int 0))) G))))
theorem wpt_X2_unitsOn_0 {E : ZE} {l : Launch} {d b : Nat} {G0 : ZG} {Q : ZQ} {k : Nat} {q0 : Nat} {x1 : Int32} {x2 : Int32} {G : ZG} (h : wp_X2_unitsOn_0 E l d b G0 Q k q0 x1 x2 G) : zW E l mX2_unitsOn d b G0 Q k 0 [some (.ref q0), some (.int x1), some (.int x2), none, none, none] [] G := by
  unfold wp_X2_unitsOn_0 at h
  refine z_iload_n (pc' := 1) dX2_unitsOn_0 rfl rfl ?_
  refine z_if_lt (pt := 9) (pc' := 4) dX2_unitsOn_1 (by decide) rfl (fun hc => ?_) (fun hc => ?_)
  · have h := h.1 hc
    refine z_iconst (x := 0) (pc' := 10) dX2_unitsOn_9 (by decide) rfl ?_
    exact z_iret dX2_unitsOn_10 rfl h
  · have h := h.2 hc
    refine z_iload_n (pc' := 5) dX2_unitsOn_4 rfl rfl ?_
    refine z_iconst (x := 4) (pc' := 6) dX2_unitsOn_5 (by decide) rfl ?_
    refine z_icmp_lt (pt := 11) (pc' := 9) dX2_unitsOn_6 (by decide) rfl (fun hc => ?_) (fun hc => ?_)
    · have h := h.1 hc
      refine z_aload_n (pc' := 12) dX2_unitsOn_11 rfl rfl ?_
      obtain ⟨h1, h⟩ := h
      refine z_getR (ci := 3) (kf := 1) (pc' := 15) dX2_unitsOn_12 kX2_16 (Or.inl rfl) (by decide) (by decide) rfl rfl h1 ?_
      refine z_iload_n (pc' := 16) dX2_unitsOn_15 rfl rfl ?_
      obtain ⟨h1, h2, h⟩ := h
      refine z_iald (pc' := 17) dX2_unitsOn_16 rfl h1 h2 ?_
      refine z_bipush (x := 8) (pc' := 19) dX2_unitsOn_17 (by decide) rfl ?_
      refine z_imul (pc' := 20) dX2_unitsOn_19 rfl rfl ?_
      refine z_istore_n (pc' := 21) dX2_unitsOn_20 (by decide) rfl ?_
      refine z_iconst (x := 0) (pc' := 22) dX2_unitsOn_21 (by decide) rfl ?_
      refine z_istore (pc' := 24) dX2_unitsOn_22 (by decide) rfl ?_
      exact z_dr (ls' := [some (.ref q0), some (.int x1), some (.int x2), some (.int ((ziv G (zrv G q0 1) x1.toNatClampNeg) * 8)), some (.int 0), none]) ⟨rfl, rfl, rfl, rfl, rfl, trivial⟩ h
    · have h := h.2 hc
      refine z_iconst (x := 0) (pc' := 10) dX2_unitsOn_9 (by decide) rfl ?_
      exact z_iret dX2_unitsOn_10 rfl h
def wp_X2_unitsOn_24 (E : ZE) (l : Launch) (d b : Nat) (G0 : ZG) (Q : ZQ) (k : Nat) (q0 : Nat) (x1 : Int32) (x2 : Int32) (x3 : Int32) (x4 : Int32) (G : ZG) : Prop :=
  zob G q0 3 ∧
  zob G (zrv G q0 0) 0 ∧
  xcI E l mJx4a65c_size_8abf5 d [.ref (zrv G q0 0)] G k (fun X G9 => Q (.inr X) G9) (fun y1 G2 k3 =>
  ((y1 ≤ x4 →
    xcI E l mJ9_max_7cf53 d [.int 0, .int x3] G2 k3 (fun X G9 => Q (.inr X) G9) (fun y4 G5 k6 =>
    Q (.inl (some (.int y4))) G5)) ∧
  (¬ (y1 ≤ x4) →
    zob G2 q0 3 ∧
    zob G2 (zrv G2 q0 0) 0 ∧
    xcR E l mJx4a65c_get_915e3 d [.ref (zrv G2 q0 0), .int x4] G2 k3 (fun X G9 => Q (.inr X) G9) (fun y7 G8 k9 =>
    zob G8 y7 5 ∧
    zob G8 y7 5 ∧
    ((¬ (ziv G8 y7 0) = x1 →
      zW E l mX2_unitsOn d b G0 Q k9 24 [some (.ref q0), some (.int x1), some (.int x2), some (.int x3), some (.int (x4 + 1)), none] [] G8) ∧
    (¬ (¬ (ziv G8 y7 0) = x1) →
      zob G8 y7 5 ∧
      xcI E l mX4_unitsOn d [.ref y7, .int x2] G8 k9 (fun X G9 => Q (.inr X) G9) (fun y10 G11 k12 =>
      zW E l mX2_unitsOn d b G0 Q k12 24 [some (.ref q0), some (.int x1), some (.int x2), some (.int (x3 + y10)), some (.int (x4 + 1)), none] [] G11)))))))
theorem wpt_X2_unitsOn_24 {E : ZE} {l : Launch} {d b : Nat} {G0 : ZG} {Q : ZQ} {k : Nat} {q0 : Nat} {x1 : Int32} {x2 : Int32} {x3 : Int32} {x4 : Int32} {G : ZG} (h : wp_X2_unitsOn_24 E l d b G0 Q k q0 x1 x2 x3 x4 G) : zW E l mX2_unitsOn d b G0 Q k 24 [some (.ref q0), some (.int x1), some (.int x2), some (.int x3), some (.int x4), none] [] G := by
  unfold wp_X2_unitsOn_24 at h
  refine z_iload (pc' := 26) dX2_unitsOn_24 rfl rfl ?_
  refine z_aload_n (pc' := 27) dX2_unitsOn_26 rfl rfl ?_
  obtain ⟨h1, h⟩ := h
  refine z_getR (ci := 3) (kf := 0) (pc' := 30) dX2_unitsOn_27 kX2_10 (Or.inl rfl) (by decide) (by decide) rfl rfl h1 ?_
  obtain ⟨h1, h⟩ := h
  obtain ⟨d1, b1, Qz, hm, hdd, hb, hkx, hk⟩ := h
  refine z_callV (Y := mJx4a65c_size_8abf5) (n := 0) (as := []) (st := [.int x4]) (pc' := 33) (ci := 0) (q := (zrv G q0 0)) hm dX2_unitsOn_30 kX2_20 vJx4a65c_size_8abf5 rfl rfl (by decide) rfl h1 hdd hb (Nat.le_of_ble_eq_true rfl) (fun r G2 hz => ?_) hkx
  obtain ⟨y1, rfl, h⟩ := hk r G2 hz
  refine z_icmp_ge (pt := 74) (pc' := 36) dX2_unitsOn_33 (by decide) rfl (fun hc => ?_) (fun hc => ?_)
  · have h := h.1 hc
    refine z_iconst (x := 0) (pc' := 75) dX2_unitsOn_74 (by decide) rfl ?_
    refine z_iload_n (pc' := 76) dX2_unitsOn_75 rfl rfl ?_
    obtain ⟨d1, b1, Qz, hm, hdd, hb, hkx, hk⟩ := h
    refine z_callS (Y := mJ9_max_7cf53) (n := 2) (as := [.int 0, .int x3]) (st := []) (pc' := 79) hm dX2_unitsOn_76 kX2_38 sJ9_max_7cf53 rfl rfl hdd hb (Nat.le_of_ble_eq_true rfl) (fun r G5 hz => ?_) hkx
    obtain ⟨y4, rfl, h⟩ := hk r G5 hz
    exact z_iret dX2_unitsOn_79 rfl h
  · have h := h.2 hc
    refine z_aload_n (pc' := 37) dX2_unitsOn_36 rfl rfl ?_
    obtain ⟨h1, h⟩ := h
    refine z_getR (ci := 3) (kf := 0) (pc' := 40) dX2_unitsOn_37 kX2_10 (Or.inl rfl) (by decide) (by decide) rfl rfl h1 ?_
    refine z_iload (pc' := 42) dX2_unitsOn_40 rfl rfl ?_
    obtain ⟨h1, h⟩ := h
    obtain ⟨d1, b1, Qz, hm, hdd, hb, hkx, hk⟩ := h
    refine z_callV (Y := mJx4a65c_get_915e3) (n := 1) (as := [.int x4]) (st := []) (pc' := 45) (ci := 0) (q := (zrv G2 q0 0)) hm dX2_unitsOn_42 kX2_24 vJx4a65c_get_915e3 rfl rfl (by decide) rfl h1 hdd hb (Nat.le_of_ble_eq_true rfl) (fun r G8 hz => ?_) hkx
    obtain ⟨y7, rfl, h⟩ := hk r G8 hz
    obtain ⟨h1, h⟩ := h
    refine z_castO (ci := 5) (pc' := 48) dX2_unitsOn_45 kX2_28 (by decide) rfl h1 ?_
    refine z_astore (pc' := 50) dX2_unitsOn_48 (by decide) rfl ?_
    refine z_aload (pc' := 52) dX2_unitsOn_50 rfl rfl ?_
    obtain ⟨h1, h⟩ := h
    refine z_getI (ci := 5) (kf := 0) (pc' := 55) dX2_unitsOn_52 kX2_30 (Or.inl rfl) (by decide) (by decide) rfl rfl h1 ?_
    refine z_iload_n (pc' := 56) dX2_unitsOn_55 rfl rfl ?_
    refine z_icmp_ne (pt := 68) (pc' := 59) dX2_unitsOn_56 (by decide) rfl (fun hc => ?_) (fun hc => ?_)
    · have h := h.1 hc
      refine z_iinc (y := x4 + 1) (pc' := 71) dX2_unitsOn_68 rfl (zinc_1 _) (by decide) rfl ?_
      refine z_goto (pc' := 24) dX2_unitsOn_71 (by decide) ?_
      exact z_dr (ls' := [some (.ref q0), some (.int x1), some (.int x2), some (.int x3), some (.int (x4 + 1)), none]) ⟨rfl, rfl, rfl, rfl, rfl, trivial⟩ h
    · have h := h.2 hc
      refine z_iload_n (pc' := 60) dX2_unitsOn_59 rfl rfl ?_
      refine z_aload (pc' := 62) dX2_unitsOn_60 rfl rfl ?_
      refine z_iload_n (pc' := 63) dX2_unitsOn_62 rfl rfl ?_
      obtain ⟨h1, h⟩ := h
      obtain ⟨d1, b1, Qz, hm, hdd, hb, hkx, hk⟩ := h
      refine z_callV (Y := mX4_unitsOn) (n := 1) (as := [.int x2]) (st := [.int x3]) (pc' := 66) (ci := 5) (q := y7) hm dX2_unitsOn_63 kX2_34 vX4_unitsOn rfl rfl (by decide) rfl h1 hdd hb (Nat.le_of_ble_eq_true rfl) (fun r G11 hz => ?_) hkx
      obtain ⟨y10, rfl, h⟩ := hk r G11 hz
      refine z_iadd (pc' := 67) dX2_unitsOn_66 rfl rfl ?_
      refine z_istore_n (pc' := 68) dX2_unitsOn_67 (by decide) rfl ?_
      refine z_iinc (y := x4 + 1) (pc' := 71) dX2_unitsOn_68 rfl (zinc_1 _) (by decide) rfl ?_
      refine z_goto (pc' := 24) dX2_unitsOn_71 (by decide) ?_
      exact z_dr (ls' := [some (.ref q0), some (.int x1), some (.int x2), some (.int (x3 + y10)), some (.int (x4 + 1)), none]) ⟨rfl, rfl, rfl, rfl, rfl, trivial⟩ h
