/-! the law's body -/
def xhI (hh : List (Nat × Nat × Nat × Nat)) (E : ZE) (l : Launch) (Y : ZM) (d : Nat) (as : List Value) (G : ZG) (k : Nat) (KX : String → ZG → Prop) (K : Int32 → ZG → Nat → Prop) : Prop := ∃ (d1 b1 : Nat) (Qz : ZQ), zMetH hh E l Y d1 b1 as G Qz ∧ d1 + 1 ≤ d ∧ b1 ≤ k ∧ (∀ X G', Qz (.inr X) G' → KX X G') ∧ ∀ r G', Qz (.inl r) G' → ∃ x, r = some (.int x) ∧ K x G' (k - b1)
def wp_L_law__0 (E : ZE) (l : Launch) (d b : Nat) (G0 : ZG) (Q : ZQ) (k : Nat) (q0 : Nat) (G : ZG) : Prop :=
  11 ≤ k ∧ ∃ t1, t1 ≠ 0 ∧ t1 < 448 ∧ t1 / 32 = 12 ∧
  ∀ q_2, q_2 = zp t1 (zcn G t1) → ∀ G3, G3 = znw G t1 0 → ∀ k4, k4 = k - 11 →
  zal G3 q_2 ∧
  xcV E l mX11_init d [.ref q_2] G3 k4 (fun X G9 => Q (.inr X) G9) (fun G5 k6 =>
  84 ≤ k6 ∧ ∃ t7, t7 ≠ 0 ∧ t7 < 448 ∧ t7 / 32 = 13 ∧
  ∀ q_8, q_8 = zp t7 (zcn G5 t7) → ∀ G9, G9 = znw G5 t7 0 → ∀ k10, k10 = k6 - 84 →
  zal G9 q_8 ∧
  xcV E l mX12_init d [.ref q_8] G9 k10 (fun X G9 => Q (.inr X) G9) (fun G11 k12 =>
  ¬ (1 : Int32) < 0 ∧ (1 : Int32).toNatClampNeg ≤ 67108864 ∧ (1 : Int32).toNatClampNeg + 1 ≤ k12 ∧ ∃ t13, 1024 ≤ t13 ∧ t13 < 3584 ∧ (t13 - 1024) / 512 = 3 ∧
  ∀ q_14, q_14 = zp t13 (zcn G11 t13) → ∀ G15, G15 = znw G11 t13 (1 : Int32).toNatClampNeg → ∀ k16, k16 = k12 - ((1 : Int32).toNatClampNeg + 1) →
  zWL E l mL_law_ d b G0 Q k16 23 [some (.ref q0), some (.ref q_2), some (.ref q_8), some (.ref q_14), some (.int 0), none, none] [] G15))
theorem wpt_L_law__0 {E : ZE} {l : Launch} {d b : Nat} {G0 : ZG} {Q : ZQ} {k : Nat} {q0 : Nat} {G : ZG} (h : wp_L_law__0 E l d b G0 Q k q0 G) : zWL E l mL_law_ d b G0 Q k 0 [some (.ref q0), none, none, none, none, none, none] [] G := by
  unfold wp_L_law__0 at h
  obtain ⟨h1, t1, h2, h3, h4, h⟩ := h
  obtain ⟨q_2, hq⟩ : ∃ z, z = zp t1 (zcn G t1) := ⟨_, rfl⟩
  obtain ⟨G3, hG⟩ : ∃ z, z = znw G t1 0 := ⟨_, rfl⟩
  have h := h _ hq _ hG _ rfl
  refine y_new (ci := 12) (t := t1) (pc' := 3) dL_law__0 kL_8 n12_inst n12_ini (by decide) rfl h2 h3 h4 h1 (z_df (by decide)) ?_
  refine y_mk hq hG ?_
  refine y_dup (pc' := 4) dL_law__3 rfl rfl ?_
  obtain ⟨h1, h⟩ := h
  obtain ⟨d1, b1, Qz, hm, hdd, hb, hkx, hk⟩ := h
  refine y_callI (Y := mX11_init) (n := 0) (as := []) (st := [.ref q_2]) (pc' := 7) (q := q_2) hm dL_law__4 kL_114 iX11_init rfl rfl h1 hdd hb (Nat.le_of_ble_eq_true rfl) (fun r G5 hz => ?_) hkx
  obtain ⟨rfl, h⟩ := hk r G5 hz
  refine y_astore_n (pc' := 8) dL_law__7 (by decide) rfl ?_
  obtain ⟨h1, t7, h2, h3, h4, h⟩ := h
  obtain ⟨q_8, hq⟩ : ∃ z, z = zp t7 (zcn G5 t7) := ⟨_, rfl⟩
  obtain ⟨G9, hG⟩ : ∃ z, z = znw G5 t7 0 := ⟨_, rfl⟩
  have h := h _ hq _ hG _ rfl
  refine y_new (ci := 13) (t := t7) (pc' := 11) dL_law__8 kL_115 n13_inst n13_ini (by decide) rfl h2 h3 h4 h1 (z_df (by decide)) ?_
  refine y_mk hq hG ?_
  refine y_dup (pc' := 12) dL_law__11 rfl rfl ?_
  obtain ⟨h1, h⟩ := h
  obtain ⟨d1, b1, Qz, hm, hdd, hb, hkx, hk⟩ := h
  refine y_callI (Y := mX12_init) (n := 0) (as := []) (st := [.ref q_8]) (pc' := 15) (q := q_8) hm dL_law__12 kL_117 iX12_init rfl rfl h1 hdd hb (Nat.le_of_ble_eq_true rfl) (fun r G11 hz => ?_) hkx
  obtain ⟨rfl, h⟩ := hk r G11 hz
  refine y_astore_n (pc' := 16) dL_law__15 (by decide) rfl ?_
  refine y_iconst (x := 1) (pc' := 17) dL_law__16 (by decide) rfl ?_
  obtain ⟨h1, h2, h3, t13, h4, h5, h6, h⟩ := h
  obtain ⟨q_14, hq⟩ : ∃ z, z = zp t13 (zcn G11 t13) := ⟨_, rfl⟩
  obtain ⟨G15, hG⟩ : ∃ z, z = znw G11 t13 (1 : Int32).toNatClampNeg := ⟨_, rfl⟩
  have h := h _ hq _ hG _ rfl
  refine y_newa (t := t13) (kd := 3) (pc' := 19) dL_law__17 rfl (by decide) a_long rfl h4 h5 h6 h1 rfl h2 h3 ?_
  refine y_mk hq hG ?_
  refine y_astore_n (pc' := 20) dL_law__19 (by decide) rfl ?_
  refine y_iconst (x := 0) (pc' := 21) dL_law__20 (by decide) rfl ?_
  refine y_istore (pc' := 23) dL_law__21 (by decide) rfl ?_
  exact y_dr (ls' := [some (.ref q0), some (.ref q_2), some (.ref q_8), some (.ref q_14), some (.int 0), none, none]) ⟨rfl, rfl, rfl, rfl, rfl, trivial⟩ h
def wp_L_law__23 (E : ZE) (l : Launch) (d b : Nat) (G0 : ZG) (Q : ZQ) (k : Nat) (q0 : Nat) (q1 : Nat) (q2 : Nat) (q3 : Nat) (x4 : Int32) (G : ZG) : Prop :=
  (zar G q0 0 ∨ zrd G q0 .int) ∧
  ((((Int32.ofNat (zln G q0)) - 8) < x4 →
    Q (.inl (some (.int 1))) G) ∧
  (¬ (((Int32.ofNat (zln G q0)) - 8) < x4) →
    (zar G q0 0 ∨ zrd G q0 .int) ∧ vp_in x4 (zln G q0) ∧
    ((((ziv G q0 x4.toNatClampNeg) &&& 63) = 0 →
      zWL E l mL_law_ d b G0 Q k 188 [some (.ref q0), some (.ref q1), some (.ref q2), some (.ref q3), some (.int x4), none, none] [] G) ∧
    ((((ziv G q0 x4.toNatClampNeg) &&& 63) = 1 →
      zWL E l mL_law_ d b G0 Q k 261 [some (.ref q0), some (.ref q1), some (.ref q2), some (.ref q3), some (.int x4), none, none] [] G) ∧
    ((((ziv G q0 x4.toNatClampNeg) &&& 63) = 2 →
      zWL E l mL_law_ d b G0 Q k 286 [some (.ref q0), some (.ref q1), some (.ref q2), some (.ref q3), some (.int x4), none, none] [] G) ∧
    ((((ziv G q0 x4.toNatClampNeg) &&& 63) = 3 →
      zWL E l mL_law_ d b G0 Q k 342 [some (.ref q0), some (.ref q1), some (.ref q2), some (.ref q3), some (.int x4), none, none] [] G) ∧
    ((((ziv G q0 x4.toNatClampNeg) &&& 63) = 4 →
      zWL E l mL_law_ d b G0 Q k 355 [some (.ref q0), some (.ref q1), some (.ref q2), some (.ref q3), some (.int x4), none, none] [] G) ∧
    ((((ziv G q0 x4.toNatClampNeg) &&& 63) = 5 →
      zWL E l mL_law_ d b G0 Q k 503 [some (.ref q0), some (.ref q1), some (.ref q2), some (.ref q3), some (.int x4), none, none] [] G) ∧
    ((((ziv G q0 x4.toNatClampNeg) &&& 63) = 6 →
      zWL E l mL_law_ d b G0 Q k 559 [some (.ref q0), some (.ref q1), some (.ref q2), some (.ref q3), some (.int x4), none, none] [] G) ∧
    ((((ziv G q0 x4.toNatClampNeg) &&& 63) = 7 →
      zWL E l mL_law_ d b G0 Q k 627 [some (.ref q0), some (.ref q1), some (.ref q2), some (.ref q3), some (.int x4), none, none] [] G) ∧
    ((((ziv G q0 x4.toNatClampNeg) &&& 63) = 8 →
      zWL E l mL_law_ d b G0 Q k 683 [some (.ref q0), some (.ref q1), some (.ref q2), some (.ref q3), some (.int x4), none, none] [] G) ∧
    ((((ziv G q0 x4.toNatClampNeg) &&& 63) = 9 →
      zWL E l mL_law_ d b G0 Q k 751 [some (.ref q0), some (.ref q1), some (.ref q2), some (.ref q3), some (.int x4), none, none] [] G) ∧
    ((((ziv G q0 x4.toNatClampNeg) &&& 63) = 10 →
      zWL E l mL_law_ d b G0 Q k 847 [some (.ref q0), some (.ref q1), some (.ref q2), some (.ref q3), some (.int x4), none, none] [] G) ∧
    ((((ziv G q0 x4.toNatClampNeg) &&& 63) = 11 →
      zWL E l mL_law_ d b G0 Q k 967 [some (.ref q0), some (.ref q1), some (.ref q2), some (.ref q3), some (.int x4), none, none] [] G) ∧
    ((((ziv G q0 x4.toNatClampNeg) &&& 63) = 12 →
      zWL E l mL_law_ d b G0 Q k 1087 [some (.ref q0), some (.ref q1), some (.ref q2), some (.ref q3), some (.int x4), none, none] [] G) ∧
    ((((ziv G q0 x4.toNatClampNeg) &&& 63) = 13 →
      zWL E l mL_law_ d b G0 Q k 1155 [some (.ref q0), some (.ref q1), some (.ref q2), some (.ref q3), some (.int x4), none, none] [] G) ∧
    ((((ziv G q0 x4.toNatClampNeg) &&& 63) = 14 →
      zWL E l mL_law_ d b G0 Q k 1203 [some (.ref q0), some (.ref q1), some (.ref q2), some (.ref q3), some (.int x4), none, none] [] G) ∧
    ((((ziv G q0 x4.toNatClampNeg) &&& 63) = 15 →
      zWL E l mL_law_ d b G0 Q k 1307 [some (.ref q0), some (.ref q1), some (.ref q2), some (.ref q3), some (.int x4), none, none] [] G) ∧
    ((((ziv G q0 x4.toNatClampNeg) &&& 63) = 16 →
      zWL E l mL_law_ d b G0 Q k 1375 [some (.ref q0), some (.ref q1), some (.ref q2), some (.ref q3), some (.int x4), none, none] [] G) ∧
    ((((ziv G q0 x4.toNatClampNeg) &&& 63) = 17 →
      zWL E l mL_law_ d b G0 Q k 1459 [some (.ref q0), some (.ref q1), some (.ref q2), some (.ref q3), some (.int x4), none, none] [] G) ∧
    ((((ziv G q0 x4.toNatClampNeg) &&& 63) = 18 →
      zWL E l mL_law_ d b G0 Q k 1495 [some (.ref q0), some (.ref q1), some (.ref q2), some (.ref q3), some (.int x4), none, none] [] G) ∧
    ((((ziv G q0 x4.toNatClampNeg) &&& 63) = 19 →
      zWL E l mL_law_ d b G0 Q k 1551 [some (.ref q0), some (.ref q1), some (.ref q2), some (.ref q3), some (.int x4), none, none] [] G) ∧
    ((((ziv G q0 x4.toNatClampNeg) &&& 63) = 20 →
      zWL E l mL_law_ d b G0 Q k 1599 [some (.ref q0), some (.ref q1), some (.ref q2), some (.ref q3), some (.int x4), none, none] [] G) ∧
    ((((ziv G q0 x4.toNatClampNeg) &&& 63) = 21 →
      zWL E l mL_law_ d b G0 Q k 1655 [some (.ref q0), some (.ref q1), some (.ref q2), some (.ref q3), some (.int x4), none, none] [] G) ∧
    ((((ziv G q0 x4.toNatClampNeg) &&& 63) = 22 →
      zWL E l mL_law_ d b G0 Q k 1691 [some (.ref q0), some (.ref q1), some (.ref q2), some (.ref q3), some (.int x4), none, none] [] G) ∧
    ((((ziv G q0 x4.toNatClampNeg) &&& 63) = 23 →
      zWL E l mL_law_ d b G0 Q k 1727 [some (.ref q0), some (.ref q1), some (.ref q2), some (.ref q3), some (.int x4), none, none] [] G) ∧
    ((((ziv G q0 x4.toNatClampNeg) &&& 63) = 24 →
      zWL E l mL_law_ d b G0 Q k 1763 [some (.ref q0), some (.ref q1), some (.ref q2), some (.ref q3), some (.int x4), none, none] [] G) ∧
    ((((ziv G q0 x4.toNatClampNeg) &&& 63) = 25 →
      zWL E l mL_law_ d b G0 Q k 1831 [some (.ref q0), some (.ref q1), some (.ref q2), some (.ref q3), some (.int x4), none, none] [] G) ∧
    ((((ziv G q0 x4.toNatClampNeg) &&& 63) = 26 →
      zWL E l mL_law_ d b G0 Q k 1887 [some (.ref q0), some (.ref q1), some (.ref q2), some (.ref q3), some (.int x4), none, none] [] G) ∧
    ((((ziv G q0 x4.toNatClampNeg) &&& 63) = 27 →
      zWL E l mL_law_ d b G0 Q k 1943 [some (.ref q0), some (.ref q1), some (.ref q2), some (.ref q3), some (.int x4), none, none] [] G) ∧
    ((((ziv G q0 x4.toNatClampNeg) &&& 63) = 28 →
      zWL E l mL_law_ d b G0 Q k 2011 [some (.ref q0), some (.ref q1), some (.ref q2), some (.ref q3), some (.int x4), none, none] [] G) ∧
    ((((ziv G q0 x4.toNatClampNeg) &&& 63) = 29 →
      zWL E l mL_law_ d b G0 Q k 2079 [some (.ref q0), some (.ref q1), some (.ref q2), some (.ref q3), some (.int x4), none, none] [] G) ∧
    ((((ziv G q0 x4.toNatClampNeg) &&& 63) = 30 →
      zWL E l mL_law_ d b G0 Q k 2147 [some (.ref q0), some (.ref q1), some (.ref q2), some (.ref q3), some (.int x4), none, none] [] G) ∧
    ((((ziv G q0 x4.toNatClampNeg) &&& 63) = 31 →
      zWL E l mL_law_ d b G0 Q k 2231 [some (.ref q0), some (.ref q1), some (.ref q2), some (.ref q3), some (.int x4), none, none] [] G) ∧
    ((((ziv G q0 x4.toNatClampNeg) &&& 63) = 32 →
      zWL E l mL_law_ d b G0 Q k 2268 [some (.ref q0), some (.ref q1), some (.ref q2), some (.ref q3), some (.int x4), none, none] [] G) ∧
    (¬ ((ziv G q0 x4.toNatClampNeg) &&& 63) = 0 → ¬ ((ziv G q0 x4.toNatClampNeg) &&& 63) = 1 → ¬ ((ziv G q0 x4.toNatClampNeg) &&& 63) = 2 → ¬ ((ziv G q0 x4.toNatClampNeg) &&& 63) = 3 → ¬ ((ziv G q0 x4.toNatClampNeg) &&& 63) = 4 → ¬ ((ziv G q0 x4.toNatClampNeg) &&& 63) = 5 → ¬ ((ziv G q0 x4.toNatClampNeg) &&& 63) = 6 → ¬ ((ziv G q0 x4.toNatClampNeg) &&& 63) = 7 → ¬ ((ziv G q0 x4.toNatClampNeg) &&& 63) = 8 → ¬ ((ziv G q0 x4.toNatClampNeg) &&& 63) = 9 → ¬ ((ziv G q0 x4.toNatClampNeg) &&& 63) = 10 → ¬ ((ziv G q0 x4.toNatClampNeg) &&& 63) = 11 → ¬ ((ziv G q0 x4.toNatClampNeg) &&& 63) = 12 → ¬ ((ziv G q0 x4.toNatClampNeg) &&& 63) = 13 → ¬ ((ziv G q0 x4.toNatClampNeg) &&& 63) = 14 → ¬ ((ziv G q0 x4.toNatClampNeg) &&& 63) = 15 → ¬ ((ziv G q0 x4.toNatClampNeg) &&& 63) = 16 → ¬ ((ziv G q0 x4.toNatClampNeg) &&& 63) = 17 → ¬ ((ziv G q0 x4.toNatClampNeg) &&& 63) = 18 → ¬ ((ziv G q0 x4.toNatClampNeg) &&& 63) = 19 → ¬ ((ziv G q0 x4.toNatClampNeg) &&& 63) = 20 → ¬ ((ziv G q0 x4.toNatClampNeg) &&& 63) = 21 → ¬ ((ziv G q0 x4.toNatClampNeg) &&& 63) = 22 → ¬ ((ziv G q0 x4.toNatClampNeg) &&& 63) = 23 → ¬ ((ziv G q0 x4.toNatClampNeg) &&& 63) = 24 → ¬ ((ziv G q0 x4.toNatClampNeg) &&& 63) = 25 → ¬ ((ziv G q0 x4.toNatClampNeg) &&& 63) = 26 → ¬ ((ziv G q0 x4.toNatClampNeg) &&& 63) = 27 → ¬ ((ziv G q0 x4.toNatClampNeg) &&& 63) = 28 → ¬ ((ziv G q0 x4.toNatClampNeg) &&& 63) = 29 → ¬ ((ziv G q0 x4.toNatClampNeg) &&& 63) = 30 → ¬ ((ziv G q0 x4.toNatClampNeg) &&& 63) = 31 → ¬ ((ziv G q0 x4.toNatClampNeg) &&& 63) = 32 →
      zWL E l mL_law_ d b G0 Q k 2293 [some (.ref q0), some (.ref q1), some (.ref q2), some (.ref q3), some (.int x4), none, none] [] G))))))))))))))))))))))))))))))))))))
theorem wpt_L_law__23 {E : ZE} {l : Launch} {d b : Nat} {G0 : ZG} {Q : ZQ} {k : Nat} {q0 : Nat} {q1 : Nat} {q2 : Nat} {q3 : Nat} {x4 : Int32} {G : ZG} (h : wp_L_law__23 E l d b G0 Q k q0 q1 q2 q3 x4 G) : zWL E l mL_law_ d b G0 Q k 23 [some (.ref q0), some (.ref q1), some (.ref q2), some (.ref q3), some (.int x4), none, none] [] G := by
  unfold wp_L_law__23 at h
  refine y_iload (pc' := 25) dL_law__23 rfl rfl ?_
  refine y_aload_n (pc' := 26) dL_law__25 rfl rfl ?_
  obtain ⟨h1, h⟩ := h
  refine y_alen (pc' := 27) dL_law__26 rfl (h1.imp (fun h => ⟨0, by decide, h⟩) (fun h => ⟨_, h⟩)) rfl ?_
  refine y_bipush (x := 8) (pc' := 29) dL_law__27 (by decide) rfl ?_
  refine y_isub (pc' := 30) dL_law__29 rfl rfl ?_
  refine y_icmp_gt (pt := 2299) (pc' := 33) dL_law__30 (by decide) rfl (fun hc => ?_) (fun hc => ?_)
  · have h := h.1 hc
    refine y_iconst (x := 1) (pc' := 2300) dL_law__2299 (by decide) rfl ?_
    exact y_zret (ty := .boolean) dL_law__2300 rfl (by decide) h
  · have h := h.2 hc
    refine y_aload_n (pc' := 34) dL_law__33 rfl rfl ?_
    refine y_iload (pc' := 36) dL_law__34 rfl rfl ?_
    obtain ⟨h1, h2, h⟩ := h
    refine y_iald (pc' := 37) dL_law__36 rfl h1 h2 ?_
    refine y_bipush (x := 63) (pc' := 39) dL_law__37 (by decide) rfl ?_
    refine y_iand (pc' := 40) dL_law__39 rfl rfl ?_
    by_cases hc0 : ((ziv G q0 x4.toNatClampNeg) &&& 63) = 0
    · have h := h.1 hc0
      refine y_tableIn (off := 148) (pt := 188) dL_law__40 (by rw [hc0]; decide) (by rw [hc0]; decide) (by rw [hc0]; decide) (by decide) ?_
      exact y_dr (ls' := [some (.ref q0), some (.ref q1), some (.ref q2), some (.ref q3), some (.int x4), none, none]) ⟨rfl, rfl, rfl, rfl, rfl, trivial⟩ h
    have h := h.2
    by_cases hc1 : ((ziv G q0 x4.toNatClampNeg) &&& 63) = 1
    · have h := h.1 hc1
      refine y_tableIn (off := 221) (pt := 261) dL_law__40 (by rw [hc1]; decide) (by rw [hc1]; decide) (by rw [hc1]; decide) (by decide) ?_
      exact y_dr (ls' := [some (.ref q0), some (.ref q1), some (.ref q2), some (.ref q3), some (.int x4), none, none]) ⟨rfl, rfl, rfl, rfl, rfl, trivial⟩ h
    have h := h.2
    by_cases hc2 : ((ziv G q0 x4.toNatClampNeg) &&& 63) = 2
    · have h := h.1 hc2
      refine y_tableIn (off := 246) (pt := 286) dL_law__40 (by rw [hc2]; decide) (by rw [hc2]; decide) (by rw [hc2]; decide) (by decide) ?_
      exact y_dr (ls' := [some (.ref q0), some (.ref q1), some (.ref q2), some (.ref q3), some (.int x4), none, none]) ⟨rfl, rfl, rfl, rfl, rfl, trivial⟩ h
    have h := h.2
    by_cases hc3 : ((ziv G q0 x4.toNatClampNeg) &&& 63) = 3
    · have h := h.1 hc3
      refine y_tableIn (off := 302) (pt := 342) dL_law__40 (by rw [hc3]; decide) (by rw [hc3]; decide) (by rw [hc3]; decide) (by decide) ?_
      exact y_dr (ls' := [some (.ref q0), some (.ref q1), some (.ref q2), some (.ref q3), some (.int x4), none, none]) ⟨rfl, rfl, rfl, rfl, rfl, trivial⟩ h
    have h := h.2
    by_cases hc4 : ((ziv G q0 x4.toNatClampNeg) &&& 63) = 4
    · have h := h.1 hc4
      refine y_tableIn (off := 315) (pt := 355) dL_law__40 (by rw [hc4]; decide) (by rw [hc4]; decide) (by rw [hc4]; decide) (by decide) ?_
      exact y_dr (ls' := [some (.ref q0), some (.ref q1), some (.ref q2), some (.ref q3), some (.int x4), none, none]) ⟨rfl, rfl, rfl, rfl, rfl, trivial⟩ h
    have h := h.2
    by_cases hc5 : ((ziv G q0 x4.toNatClampNeg) &&& 63) = 5
    · have h := h.1 hc5
      refine y_tableIn (off := 463) (pt := 503) dL_law__40 (by rw [hc5]; decide) (by rw [hc5]; decide) (by rw [hc5]; decide) (by decide) ?_
      exact y_dr (ls' := [some (.ref q0), some (.ref q1), some (.ref q2), some (.ref q3), some (.int x4), none, none]) ⟨rfl, rfl, rfl, rfl, rfl, trivial⟩ h
    have h := h.2
    by_cases hc6 : ((ziv G q0 x4.toNatClampNeg) &&& 63) = 6
    · have h := h.1 hc6
      refine y_tableIn (off := 519) (pt := 559) dL_law__40 (by rw [hc6]; decide) (by rw [hc6]; decide) (by rw [hc6]; decide) (by decide) ?_
      exact y_dr (ls' := [some (.ref q0), some (.ref q1), some (.ref q2), some (.ref q3), some (.int x4), none, none]) ⟨rfl, rfl, rfl, rfl, rfl, trivial⟩ h
    have h := h.2
    by_cases hc7 : ((ziv G q0 x4.toNatClampNeg) &&& 63) = 7
    · have h := h.1 hc7
      refine y_tableIn (off := 587) (pt := 627) dL_law__40 (by rw [hc7]; decide) (by rw [hc7]; decide) (by rw [hc7]; decide) (by decide) ?_
      exact y_dr (ls' := [some (.ref q0), some (.ref q1), some (.ref q2), some (.ref q3), some (.int x4), none, none]) ⟨rfl, rfl, rfl, rfl, rfl, trivial⟩ h
    have h := h.2
    by_cases hc8 : ((ziv G q0 x4.toNatClampNeg) &&& 63) = 8
    · have h := h.1 hc8
      refine y_tableIn (off := 643) (pt := 683) dL_law__40 (by rw [hc8]; decide) (by rw [hc8]; decide) (by rw [hc8]; decide) (by decide) ?_
      exact y_dr (ls' := [some (.ref q0), some (.ref q1), some (.ref q2), some (.ref q3), some (.int x4), none, none]) ⟨rfl, rfl, rfl, rfl, rfl, trivial⟩ h
    have h := h.2
    by_cases hc9 : ((ziv G q0 x4.toNatClampNeg) &&& 63) = 9
    · have h := h.1 hc9
      refine y_tableIn (off := 711) (pt := 751) dL_law__40 (by rw [hc9]; decide) (by rw [hc9]; decide) (by rw [hc9]; decide) (by decide) ?_
      exact y_dr (ls' := [some (.ref q0), some (.ref q1), some (.ref q2), some (.ref q3), some (.int x4), none, none]) ⟨rfl, rfl, rfl, rfl, rfl, trivial⟩ h
    have h := h.2
    by_cases hc10 : ((ziv G q0 x4.toNatClampNeg) &&& 63) = 10
    · have h := h.1 hc10
      refine y_tableIn (off := 807) (pt := 847) dL_law__40 (by rw [hc10]; decide) (by rw [hc10]; decide) (by rw [hc10]; decide) (by decide) ?_
      exact y_dr (ls' := [some (.ref q0), some (.ref q1), some (.ref q2), some (.ref q3), some (.int x4), none, none]) ⟨rfl, rfl, rfl, rfl, rfl, trivial⟩ h
    have h := h.2
    by_cases hc11 : ((ziv G q0 x4.toNatClampNeg) &&& 63) = 11
    · have h := h.1 hc11
      refine y_tableIn (off := 927) (pt := 967) dL_law__40 (by rw [hc11]; decide) (by rw [hc11]; decide) (by rw [hc11]; decide) (by decide) ?_
      exact y_dr (ls' := [some (.ref q0), some (.ref q1), some (.ref q2), some (.ref q3), some (.int x4), none, none]) ⟨rfl, rfl, rfl, rfl, rfl, trivial⟩ h
    have h := h.2
    by_cases hc12 : ((ziv G q0 x4.toNatClampNeg) &&& 63) = 12
    · have h := h.1 hc12
      refine y_tableIn (off := 1047) (pt := 1087) dL_law__40 (by rw [hc12]; decide) (by rw [hc12]; decide) (by rw [hc12]; decide) (by decide) ?_
      exact y_dr (ls' := [some (.ref q0), some (.ref q1), some (.ref q2), some (.ref q3), some (.int x4), none, none]) ⟨rfl, rfl, rfl, rfl, rfl, trivial⟩ h
    have h := h.2
    by_cases hc13 : ((ziv G q0 x4.toNatClampNeg) &&& 63) = 13
    · have h := h.1 hc13
      refine y_tableIn (off := 1115) (pt := 1155) dL_law__40 (by rw [hc13]; decide) (by rw [hc13]; decide) (by rw [hc13]; decide) (by decide) ?_
      exact y_dr (ls' := [some (.ref q0), some (.ref q1), some (.ref q2), some (.ref q3), some (.int x4), none, none]) ⟨rfl, rfl, rfl, rfl, rfl, trivial⟩ h
    have h := h.2
    by_cases hc14 : ((ziv G q0 x4.toNatClampNeg) &&& 63) = 14
    · have h := h.1 hc14
      refine y_tableIn (off := 1163) (pt := 1203) dL_law__40 (by rw [hc14]; decide) (by rw [hc14]; decide) (by rw [hc14]; decide) (by decide) ?_
      exact y_dr (ls' := [some (.ref q0), some (.ref q1), some (.ref q2), some (.ref q3), some (.int x4), none, none]) ⟨rfl, rfl, rfl, rfl, rfl, trivial⟩ h
    have h := h.2
    by_cases hc15 : ((ziv G q0 x4.toNatClampNeg) &&& 63) = 15
    · have h := h.1 hc15
      refine y_tableIn (off := 1267) (pt := 1307) dL_law__40 (by rw [hc15]; decide) (by rw [hc15]; decide) (by rw [hc15]; decide) (by decide) ?_
      exact y_dr (ls' := [some (.ref q0), some (.ref q1), some (.ref q2), some (.ref q3), some (.int x4), none, none]) ⟨rfl, rfl, rfl, rfl, rfl, trivial⟩ h
    have h := h.2
    by_cases hc16 : ((ziv G q0 x4.toNatClampNeg) &&& 63) = 16
    · have h := h.1 hc16
      refine y_tableIn (off := 1335) (pt := 1375) dL_law__40 (by rw [hc16]; decide) (by rw [hc16]; decide) (by rw [hc16]; decide) (by decide) ?_
      exact y_dr (ls' := [some (.ref q0), some (.ref q1), some (.ref q2), some (.ref q3), some (.int x4), none, none]) ⟨rfl, rfl, rfl, rfl, rfl, trivial⟩ h
    have h := h.2
    by_cases hc17 : ((ziv G q0 x4.toNatClampNeg) &&& 63) = 17
    · have h := h.1 hc17
      refine y_tableIn (off := 1419) (pt := 1459) dL_law__40 (by rw [hc17]; decide) (by rw [hc17]; decide) (by rw [hc17]; decide) (by decide) ?_
      exact y_dr (ls' := [some (.ref q0), some (.ref q1), some (.ref q2), some (.ref q3), some (.int x4), none, none]) ⟨rfl, rfl, rfl, rfl, rfl, trivial⟩ h
    have h := h.2
    by_cases hc18 : ((ziv G q0 x4.toNatClampNeg) &&& 63) = 18
    · have h := h.1 hc18
      refine y_tableIn (off := 1455) (pt := 1495) dL_law__40 (by rw [hc18]; decide) (by rw [hc18]; decide) (by rw [hc18]; decide) (by decide) ?_
      exact y_dr (ls' := [some (.ref q0), some (.ref q1), some (.ref q2), some (.ref q3), some (.int x4), none, none]) ⟨rfl, rfl, rfl, rfl, rfl, trivial⟩ h
    have h := h.2
    by_cases hc19 : ((ziv G q0 x4.toNatClampNeg) &&& 63) = 19
    · have h := h.1 hc19
      refine y_tableIn (off := 1511) (pt := 1551) dL_law__40 (by rw [hc19]; decide) (by rw [hc19]; decide) (by rw [hc19]; decide) (by decide) ?_
      exact y_dr (ls' := [some (.ref q0), some (.ref q1), some (.ref q2), some (.ref q3), some (.int x4), none, none]) ⟨rfl, rfl, rfl, rfl, rfl, trivial⟩ h
    have h := h.2
    by_cases hc20 : ((ziv G q0 x4.toNatClampNeg) &&& 63) = 20
    · have h := h.1 hc20
      refine y_tableIn (off := 1559) (pt := 1599) dL_law__40 (by rw [hc20]; decide) (by rw [hc20]; decide) (by rw [hc20]; decide) (by decide) ?_
      exact y_dr (ls' := [some (.ref q0), some (.ref q1), some (.ref q2), some (.ref q3), some (.int x4), none, none]) ⟨rfl, rfl, rfl, rfl, rfl, trivial⟩ h
    have h := h.2
    by_cases hc21 : ((ziv G q0 x4.toNatClampNeg) &&& 63) = 21
    · have h := h.1 hc21
      refine y_tableIn (off := 1615) (pt := 1655) dL_law__40 (by rw [hc21]; decide) (by rw [hc21]; decide) (by rw [hc21]; decide) (by decide) ?_
      exact y_dr (ls' := [some (.ref q0), some (.ref q1), some (.ref q2), some (.ref q3), some (.int x4), none, none]) ⟨rfl, rfl, rfl, rfl, rfl, trivial⟩ h
    have h := h.2
    by_cases hc22 : ((ziv G q0 x4.toNatClampNeg) &&& 63) = 22
    · have h := h.1 hc22
      refine y_tableIn (off := 1651) (pt := 1691) dL_law__40 (by rw [hc22]; decide) (by rw [hc22]; decide) (by rw [hc22]; decide) (by decide) ?_
      exact y_dr (ls' := [some (.ref q0), some (.ref q1), some (.ref q2), some (.ref q3), some (.int x4), none, none]) ⟨rfl, rfl, rfl, rfl, rfl, trivial⟩ h
    have h := h.2
    by_cases hc23 : ((ziv G q0 x4.toNatClampNeg) &&& 63) = 23
    · have h := h.1 hc23
      refine y_tableIn (off := 1687) (pt := 1727) dL_law__40 (by rw [hc23]; decide) (by rw [hc23]; decide) (by rw [hc23]; decide) (by decide) ?_
      exact y_dr (ls' := [some (.ref q0), some (.ref q1), some (.ref q2), some (.ref q3), some (.int x4), none, none]) ⟨rfl, rfl, rfl, rfl, rfl, trivial⟩ h
    have h := h.2
    by_cases hc24 : ((ziv G q0 x4.toNatClampNeg) &&& 63) = 24
    · have h := h.1 hc24
      refine y_tableIn (off := 1723) (pt := 1763) dL_law__40 (by rw [hc24]; decide) (by rw [hc24]; decide) (by rw [hc24]; decide) (by decide) ?_
      exact y_dr (ls' := [some (.ref q0), some (.ref q1), some (.ref q2), some (.ref q3), some (.int x4), none, none]) ⟨rfl, rfl, rfl, rfl, rfl, trivial⟩ h
    have h := h.2
    by_cases hc25 : ((ziv G q0 x4.toNatClampNeg) &&& 63) = 25
    · have h := h.1 hc25
      refine y_tableIn (off := 1791) (pt := 1831) dL_law__40 (by rw [hc25]; decide) (by rw [hc25]; decide) (by rw [hc25]; decide) (by decide) ?_
      exact y_dr (ls' := [some (.ref q0), some (.ref q1), some (.ref q2), some (.ref q3), some (.int x4), none, none]) ⟨rfl, rfl, rfl, rfl, rfl, trivial⟩ h
    have h := h.2
    by_cases hc26 : ((ziv G q0 x4.toNatClampNeg) &&& 63) = 26
    · have h := h.1 hc26
      refine y_tableIn (off := 1847) (pt := 1887) dL_law__40 (by rw [hc26]; decide) (by rw [hc26]; decide) (by rw [hc26]; decide) (by decide) ?_
      exact y_dr (ls' := [some (.ref q0), some (.ref q1), some (.ref q2), some (.ref q3), some (.int x4), none, none]) ⟨rfl, rfl, rfl, rfl, rfl, trivial⟩ h
    have h := h.2
    by_cases hc27 : ((ziv G q0 x4.toNatClampNeg) &&& 63) = 27
    · have h := h.1 hc27
      refine y_tableIn (off := 1903) (pt := 1943) dL_law__40 (by rw [hc27]; decide) (by rw [hc27]; decide) (by rw [hc27]; decide) (by decide) ?_
      exact y_dr (ls' := [some (.ref q0), some (.ref q1), some (.ref q2), some (.ref q3), some (.int x4), none, none]) ⟨rfl, rfl, rfl, rfl, rfl, trivial⟩ h
    have h := h.2
    by_cases hc28 : ((ziv G q0 x4.toNatClampNeg) &&& 63) = 28
    · have h := h.1 hc28
      refine y_tableIn (off := 1971) (pt := 2011) dL_law__40 (by rw [hc28]; decide) (by rw [hc28]; decide) (by rw [hc28]; decide) (by decide) ?_
      exact y_dr (ls' := [some (.ref q0), some (.ref q1), some (.ref q2), some (.ref q3), some (.int x4), none, none]) ⟨rfl, rfl, rfl, rfl, rfl, trivial⟩ h
    have h := h.2
    by_cases hc29 : ((ziv G q0 x4.toNatClampNeg) &&& 63) = 29
    · have h := h.1 hc29
      refine y_tableIn (off := 2039) (pt := 2079) dL_law__40 (by rw [hc29]; decide) (by rw [hc29]; decide) (by rw [hc29]; decide) (by decide) ?_
      exact y_dr (ls' := [some (.ref q0), some (.ref q1), some (.ref q2), some (.ref q3), some (.int x4), none, none]) ⟨rfl, rfl, rfl, rfl, rfl, trivial⟩ h
    have h := h.2
    by_cases hc30 : ((ziv G q0 x4.toNatClampNeg) &&& 63) = 30
    · have h := h.1 hc30
      refine y_tableIn (off := 2107) (pt := 2147) dL_law__40 (by rw [hc30]; decide) (by rw [hc30]; decide) (by rw [hc30]; decide) (by decide) ?_
      exact y_dr (ls' := [some (.ref q0), some (.ref q1), some (.ref q2), some (.ref q3), some (.int x4), none, none]) ⟨rfl, rfl, rfl, rfl, rfl, trivial⟩ h
    have h := h.2
    by_cases hc31 : ((ziv G q0 x4.toNatClampNeg) &&& 63) = 31
    · have h := h.1 hc31
      refine y_tableIn (off := 2191) (pt := 2231) dL_law__40 (by rw [hc31]; decide) (by rw [hc31]; decide) (by rw [hc31]; decide) (by decide) ?_
      exact y_dr (ls' := [some (.ref q0), some (.ref q1), some (.ref q2), some (.ref q3), some (.int x4), none, none]) ⟨rfl, rfl, rfl, rfl, rfl, trivial⟩ h
    have h := h.2
    by_cases hc32 : ((ziv G q0 x4.toNatClampNeg) &&& 63) = 32
    · have h := h.1 hc32
      refine y_tableIn (off := 2228) (pt := 2268) dL_law__40 (by rw [hc32]; decide) (by rw [hc32]; decide) (by rw [hc32]; decide) (by decide) ?_
      exact y_dr (ls' := [some (.ref q0), some (.ref q1), some (.ref q2), some (.ref q3), some (.int x4), none, none]) ⟨rfl, rfl, rfl, rfl, rfl, trivial⟩ h
    have h := h.2
    have h := h hc0 hc1 hc2 hc3 hc4 hc5 hc6 hc7 hc8 hc9 hc10 hc11 hc12 hc13 hc14 hc15 hc16 hc17 hc18 hc19 hc20 hc21 hc22 hc23 hc24 hc25 hc26 hc27 hc28 hc29 hc30 hc31 hc32
    refine y_tableOut (pt := 2293) dL_law__40 (by have e0 := lv_neT (a := 0) hc0 (by decide); have e1 := lv_neT (a := 1) hc1 (by decide); have e2 := lv_neT (a := 2) hc2 (by decide); have e3 := lv_neT (a := 3) hc3 (by decide); have e4 := lv_neT (a := 4) hc4 (by decide); have e5 := lv_neT (a := 5) hc5 (by decide); have e6 := lv_neT (a := 6) hc6 (by decide); have e7 := lv_neT (a := 7) hc7 (by decide); have e8 := lv_neT (a := 8) hc8 (by decide); have e9 := lv_neT (a := 9) hc9 (by decide); have e10 := lv_neT (a := 10) hc10 (by decide); have e11 := lv_neT (a := 11) hc11 (by decide); have e12 := lv_neT (a := 12) hc12 (by decide); have e13 := lv_neT (a := 13) hc13 (by decide); have e14 := lv_neT (a := 14) hc14 (by decide); have e15 := lv_neT (a := 15) hc15 (by decide); have e16 := lv_neT (a := 16) hc16 (by decide); have e17 := lv_neT (a := 17) hc17 (by decide); have e18 := lv_neT (a := 18) hc18 (by decide); have e19 := lv_neT (a := 19) hc19 (by decide); have e20 := lv_neT (a := 20) hc20 (by decide); have e21 := lv_neT (a := 21) hc21 (by decide); have e22 := lv_neT (a := 22) hc22 (by decide); have e23 := lv_neT (a := 23) hc23 (by decide); have e24 := lv_neT (a := 24) hc24 (by decide); have e25 := lv_neT (a := 25) hc25 (by decide); have e26 := lv_neT (a := 26) hc26 (by decide); have e27 := lv_neT (a := 27) hc27 (by decide); have e28 := lv_neT (a := 28) hc28 (by decide); have e29 := lv_neT (a := 29) hc29 (by decide); have e30 := lv_neT (a := 30) hc30 (by decide); have e31 := lv_neT (a := 31) hc31 (by decide); have e32 := lv_neT (a := 32) hc32 (by decide); omega) (by decide) ?_
    exact y_dr (ls' := [some (.ref q0), some (.ref q1), some (.ref q2), some (.ref q3), some (.int x4), none, none]) ⟨rfl, rfl, rfl, rfl, rfl, trivial⟩ h
def wp_L_law__188 (E : ZE) (l : Launch) (d b : Nat) (G0 : ZG) (Q : ZQ) (k : Nat) (q0 : Nat) (q1 : Nat) (q2 : Nat) (q3 : Nat) (x4 : Int32) (G : ZG) : Prop :=
  (zar G q0 0 ∨ zrd G q0 .int) ∧ vp_in (x4 + 1) (zln G q0) ∧
  (zar G q0 0 ∨ zrd G q0 .int) ∧ vp_in (x4 + 2) (zln G q0) ∧
  (zar G q0 0 ∨ zrd G q0 .int) ∧ vp_in (x4 + 3) (zln G q0) ∧
  (zar G q0 0 ∨ zrd G q0 .int) ∧ vp_in (x4 + 4) (zln G q0) ∧
  (zar G q0 0 ∨ zrd G q0 .int) ∧ vp_in (x4 + 5) (zln G q0) ∧
  zob G q1 12 ∧
  xcI E l mX11_feed d [.ref q1, .int (ziv G q0 (x4 + 1).toNatClampNeg), .int (ziv G q0 (x4 + 2).toNatClampNeg), .int (ziv G q0 (x4 + 3).toNatClampNeg), .int (ziv G q0 (x4 + 4).toNatClampNeg), .int (ziv G q0 (x4 + 5).toNatClampNeg)] G k (fun X G9 => Q (.inr X) G9) (fun y1 G2 k3 =>
  (zar G2 q0 0 ∨ zrd G2 q0 .int) ∧ vp_in (x4 + 1) (zln G2 q0) ∧
  (zar G2 q0 0 ∨ zrd G2 q0 .int) ∧ vp_in (x4 + 2) (zln G2 q0) ∧
  (zar G2 q0 0 ∨ zrd G2 q0 .int) ∧ vp_in (x4 + 3) (zln G2 q0) ∧
  (zar G2 q0 0 ∨ zrd G2 q0 .int) ∧ vp_in (x4 + 4) (zln G2 q0) ∧
  (zar G2 q0 0 ∨ zrd G2 q0 .int) ∧ vp_in (x4 + 5) (zln G2 q0) ∧
  zob G2 q2 13 ∧
  xcI E l mX12_feed d [.ref q2, .int (ziv G2 q0 (x4 + 1).toNatClampNeg), .int (ziv G2 q0 (x4 + 2).toNatClampNeg), .int (ziv G2 q0 (x4 + 3).toNatClampNeg), .int (ziv G2 q0 (x4 + 4).toNatClampNeg), .int (ziv G2 q0 (x4 + 5).toNatClampNeg)] G2 k3 (fun X G9 => Q (.inr X) G9) (fun y4 G5 k6 =>
  ((y1 = y4 →
    zWL E l mL_law_ d b G0 Q k6 2293 [some (.ref q0), some (.ref q1), some (.ref q2), some (.ref q3), some (.int x4), none, none] [] G5) ∧
  (¬ (y1 = y4) →
    Q (.inl (some (.int 0))) G5))))
theorem wpt_L_law__188 {E : ZE} {l : Launch} {d b : Nat} {G0 : ZG} {Q : ZQ} {k : Nat} {q0 : Nat} {q1 : Nat} {q2 : Nat} {q3 : Nat} {x4 : Int32} {G : ZG} (h : wp_L_law__188 E l d b G0 Q k q0 q1 q2 q3 x4 G) : zWL E l mL_law_ d b G0 Q k 188 [some (.ref q0), some (.ref q1), some (.ref q2), some (.ref q3), some (.int x4), none, none] [] G := by
  unfold wp_L_law__188 at h
  refine y_aload_n (pc' := 189) dL_law__188 rfl rfl ?_
  refine y_aload_n (pc' := 190) dL_law__189 rfl rfl ?_
  refine y_iload (pc' := 192) dL_law__190 rfl rfl ?_
  refine y_iconst (x := 1) (pc' := 193) dL_law__192 (by decide) rfl ?_
  refine y_iadd (pc' := 194) dL_law__193 rfl rfl ?_
  obtain ⟨h1, h2, h⟩ := h
  refine y_iald (pc' := 195) dL_law__194 rfl h1 h2 ?_
  refine y_aload_n (pc' := 196) dL_law__195 rfl rfl ?_
  refine y_iload (pc' := 198) dL_law__196 rfl rfl ?_
  refine y_iconst (x := 2) (pc' := 199) dL_law__198 (by decide) rfl ?_
  refine y_iadd (pc' := 200) dL_law__199 rfl rfl ?_
  obtain ⟨h1, h2, h⟩ := h
  refine y_iald (pc' := 201) dL_law__200 rfl h1 h2 ?_
  refine y_aload_n (pc' := 202) dL_law__201 rfl rfl ?_
  refine y_iload (pc' := 204) dL_law__202 rfl rfl ?_
  refine y_iconst (x := 3) (pc' := 205) dL_law__204 (by decide) rfl ?_
  refine y_iadd (pc' := 206) dL_law__205 rfl rfl ?_
  obtain ⟨h1, h2, h⟩ := h
  refine y_iald (pc' := 207) dL_law__206 rfl h1 h2 ?_
  refine y_aload_n (pc' := 208) dL_law__207 rfl rfl ?_
  refine y_iload (pc' := 210) dL_law__208 rfl rfl ?_
  refine y_iconst (x := 4) (pc' := 211) dL_law__210 (by decide) rfl ?_
  refine y_iadd (pc' := 212) dL_law__211 rfl rfl ?_
  obtain ⟨h1, h2, h⟩ := h
  refine y_iald (pc' := 213) dL_law__212 rfl h1 h2 ?_
  refine y_aload_n (pc' := 214) dL_law__213 rfl rfl ?_
  refine y_iload (pc' := 216) dL_law__214 rfl rfl ?_
  refine y_iconst (x := 5) (pc' := 217) dL_law__216 (by decide) rfl ?_
  refine y_iadd (pc' := 218) dL_law__217 rfl rfl ?_
  obtain ⟨h1, h2, h⟩ := h
  refine y_iald (pc' := 219) dL_law__218 rfl h1 h2 ?_
  obtain ⟨h1, h⟩ := h
  obtain ⟨d1, b1, Qz, hm, hdd, hb, hkx, hk⟩ := h
  refine y_callV (Y := mX11_feed) (n := 5) (as := [.int (ziv G q0 (x4 + 1).toNatClampNeg), .int (ziv G q0 (x4 + 2).toNatClampNeg), .int (ziv G q0 (x4 + 3).toNatClampNeg), .int (ziv G q0 (x4 + 4).toNatClampNeg), .int (ziv G q0 (x4 + 5).toNatClampNeg)]) (st := []) (pc' := 222) (ci := 12) (q := q1) hm dL_law__219 kL_118 vX11_feed rfl rfl (by decide) rfl h1 hdd hb (Nat.le_of_ble_eq_true rfl) (fun r G2 hz => ?_) hkx
  obtain ⟨y1, rfl, h⟩ := hk r G2 hz
  refine y_aload_n (pc' := 223) dL_law__222 rfl rfl ?_
  refine y_aload_n (pc' := 224) dL_law__223 rfl rfl ?_
  refine y_iload (pc' := 226) dL_law__224 rfl rfl ?_
  refine y_iconst (x := 1) (pc' := 227) dL_law__226 (by decide) rfl ?_
  refine y_iadd (pc' := 228) dL_law__227 rfl rfl ?_
  obtain ⟨h1, h2, h⟩ := h
  refine y_iald (pc' := 229) dL_law__228 rfl h1 h2 ?_
  refine y_aload_n (pc' := 230) dL_law__229 rfl rfl ?_
  refine y_iload (pc' := 232) dL_law__230 rfl rfl ?_
  refine y_iconst (x := 2) (pc' := 233) dL_law__232 (by decide) rfl ?_
  refine y_iadd (pc' := 234) dL_law__233 rfl rfl ?_
  obtain ⟨h1, h2, h⟩ := h
  refine y_iald (pc' := 235) dL_law__234 rfl h1 h2 ?_
  refine y_aload_n (pc' := 236) dL_law__235 rfl rfl ?_
  refine y_iload (pc' := 238) dL_law__236 rfl rfl ?_
  refine y_iconst (x := 3) (pc' := 239) dL_law__238 (by decide) rfl ?_
  refine y_iadd (pc' := 240) dL_law__239 rfl rfl ?_
  obtain ⟨h1, h2, h⟩ := h
  refine y_iald (pc' := 241) dL_law__240 rfl h1 h2 ?_
  refine y_aload_n (pc' := 242) dL_law__241 rfl rfl ?_
  refine y_iload (pc' := 244) dL_law__242 rfl rfl ?_
  refine y_iconst (x := 4) (pc' := 245) dL_law__244 (by decide) rfl ?_
  refine y_iadd (pc' := 246) dL_law__245 rfl rfl ?_
  obtain ⟨h1, h2, h⟩ := h
  refine y_iald (pc' := 247) dL_law__246 rfl h1 h2 ?_
  refine y_aload_n (pc' := 248) dL_law__247 rfl rfl ?_
  refine y_iload (pc' := 250) dL_law__248 rfl rfl ?_
  refine y_iconst (x := 5) (pc' := 251) dL_law__250 (by decide) rfl ?_
  refine y_iadd (pc' := 252) dL_law__251 rfl rfl ?_
  obtain ⟨h1, h2, h⟩ := h
  refine y_iald (pc' := 253) dL_law__252 rfl h1 h2 ?_
  obtain ⟨h1, h⟩ := h
  obtain ⟨d1, b1, Qz, hm, hdd, hb, hkx, hk⟩ := h
  refine y_callV (Y := mX12_feed) (n := 5) (as := [.int (ziv G2 q0 (x4 + 1).toNatClampNeg), .int (ziv G2 q0 (x4 + 2).toNatClampNeg), .int (ziv G2 q0 (x4 + 3).toNatClampNeg), .int (ziv G2 q0 (x4 + 4).toNatClampNeg), .int (ziv G2 q0 (x4 + 5).toNatClampNeg)]) (st := [.int y1]) (pc' := 256) (ci := 13) (q := q2) hm dL_law__253 kL_121 vX12_feed rfl rfl (by decide) rfl h1 hdd hb (Nat.le_of_ble_eq_true rfl) (fun r G5 hz => ?_) hkx
  obtain ⟨y4, rfl, h⟩ := hk r G5 hz
  refine y_icmp_eq (pt := 2293) (pc' := 259) dL_law__256 (by decide) rfl (fun hc => ?_) (fun hc => ?_)
  · have h := h.1 hc
    exact y_dr (ls' := [some (.ref q0), some (.ref q1), some (.ref q2), some (.ref q3), some (.int x4), none, none]) ⟨rfl, rfl, rfl, rfl, rfl, trivial⟩ h
  · have h := h.2 hc
    refine y_iconst (x := 0) (pc' := 260) dL_law__259 (by decide) rfl ?_
    exact y_zret (ty := .boolean) dL_law__260 rfl (by decide) h
def wp_L_law__261 (E : ZE) (l : Launch) (d b : Nat) (G0 : ZG) (Q : ZQ) (k : Nat) (q0 : Nat) (q1 : Nat) (q2 : Nat) (q3 : Nat) (x4 : Int32) (G : ZG) : Prop :=
  (zar G q0 0 ∨ zrd G q0 .int) ∧ vp_in (x4 + 1) (zln G q0) ∧
  zob G q1 12 ∧
  xcI E l mX11_end d [.ref q1, .int (ziv G q0 (x4 + 1).toNatClampNeg)] G k (fun X G9 => Q (.inr X) G9) (fun y1 G2 k3 =>
  (zar G2 q0 0 ∨ zrd G2 q0 .int) ∧ vp_in (x4 + 1) (zln G2 q0) ∧
  zob G2 q2 13 ∧
  xcI E l mX12_end d [.ref q2, .int (ziv G2 q0 (x4 + 1).toNatClampNeg)] G2 k3 (fun X G9 => Q (.inr X) G9) (fun y4 G5 k6 =>
  ((y1 = y4 →
    zWL E l mL_law_ d b G0 Q k6 2293 [some (.ref q0), some (.ref q1), some (.ref q2), some (.ref q3), some (.int x4), none, none] [] G5) ∧
  (¬ (y1 = y4) →
    Q (.inl (some (.int 0))) G5))))
theorem wpt_L_law__261 {E : ZE} {l : Launch} {d b : Nat} {G0 : ZG} {Q : ZQ} {k : Nat} {q0 : Nat} {q1 : Nat} {q2 : Nat} {q3 : Nat} {x4 : Int32} {G : ZG} (h : wp_L_law__261 E l d b G0 Q k q0 q1 q2 q3 x4 G) : zWL E l mL_law_ d b G0 Q k 261 [some (.ref q0), some (.ref q1), some (.ref q2), some (.ref q3), some (.int x4), none, none] [] G := by
  unfold wp_L_law__261 at h
  refine y_aload_n (pc' := 262) dL_law__261 rfl rfl ?_
  refine y_aload_n (pc' := 263) dL_law__262 rfl rfl ?_
  refine y_iload (pc' := 265) dL_law__263 rfl rfl ?_
  refine y_iconst (x := 1) (pc' := 266) dL_law__265 (by decide) rfl ?_
  refine y_iadd (pc' := 267) dL_law__266 rfl rfl ?_
  obtain ⟨h1, h2, h⟩ := h
  refine y_iald (pc' := 268) dL_law__267 rfl h1 h2 ?_
  obtain ⟨h1, h⟩ := h
  obtain ⟨d1, b1, Qz, hm, hdd, hb, hkx, hk⟩ := h
  refine y_callV (Y := mX11_end) (n := 1) (as := [.int (ziv G q0 (x4 + 1).toNatClampNeg)]) (st := []) (pc' := 271) (ci := 12) (q := q1) hm dL_law__268 kL_122 vX11_end rfl rfl (by decide) rfl h1 hdd hb (Nat.le_of_ble_eq_true rfl) (fun r G2 hz => ?_) hkx
  obtain ⟨y1, rfl, h⟩ := hk r G2 hz
  refine y_aload_n (pc' := 272) dL_law__271 rfl rfl ?_
  refine y_aload_n (pc' := 273) dL_law__272 rfl rfl ?_
  refine y_iload (pc' := 275) dL_law__273 rfl rfl ?_
  refine y_iconst (x := 1) (pc' := 276) dL_law__275 (by decide) rfl ?_
  refine y_iadd (pc' := 277) dL_law__276 rfl rfl ?_
  obtain ⟨h1, h2, h⟩ := h
  refine y_iald (pc' := 278) dL_law__277 rfl h1 h2 ?_
  obtain ⟨h1, h⟩ := h
  obtain ⟨d1, b1, Qz, hm, hdd, hb, hkx, hk⟩ := h
  refine y_callV (Y := mX12_end) (n := 1) (as := [.int (ziv G2 q0 (x4 + 1).toNatClampNeg)]) (st := [.int y1]) (pc' := 281) (ci := 13) (q := q2) hm dL_law__278 kL_126 vX12_end rfl rfl (by decide) rfl h1 hdd hb (Nat.le_of_ble_eq_true rfl) (fun r G5 hz => ?_) hkx
  obtain ⟨y4, rfl, h⟩ := hk r G5 hz
  refine y_icmp_eq (pt := 2293) (pc' := 284) dL_law__281 (by decide) rfl (fun hc => ?_) (fun hc => ?_)
  · have h := h.1 hc
    exact y_dr (ls' := [some (.ref q0), some (.ref q1), some (.ref q2), some (.ref q3), some (.int x4), none, none]) ⟨rfl, rfl, rfl, rfl, rfl, trivial⟩ h
  · have h := h.2 hc
    refine y_iconst (x := 0) (pc' := 285) dL_law__284 (by decide) rfl ?_
    exact y_zret (ty := .boolean) dL_law__285 rfl (by decide) h
def wp_L_law__286 (E : ZE) (l : Launch) (d b : Nat) (G0 : ZG) (Q : ZQ) (k : Nat) (q0 : Nat) (q1 : Nat) (q2 : Nat) (q3 : Nat) (x4 : Int32) (G : ZG) : Prop :=
  (zar G q0 0 ∨ zrd G q0 .int) ∧ vp_in (x4 + 1) (zln G q0) ∧
  xhI [(0, 9, 12, 13), (0, 9, 15, 15)] E l mL_law d [.ref q1, .int (ziv G q0 (x4 + 1).toNatClampNeg), .ref q3] G k (fun X G9 => Q (.inr X) G9) (fun y1 G2 k3 =>
  (zar G2 q0 0 ∨ zrd G2 q0 .int) ∧ vp_in (x4 + 1) (zln G2 q0) ∧
  zob G2 q2 13 ∧
  xcI E l mX12_law d [.ref q2, .int (ziv G2 q0 (x4 + 1).toNatClampNeg)] G2 k3 (fun X G9 => Q (.inr X) G9) (fun y4 G5 k6 =>
  zob G5 q2 13 ∧
  xcI E l mX12_thrown d [.ref q2] G5 k6 (fun X G9 => Q (.inr X) G9) (fun y7 G8 k9 =>
  ((y7 = y1 →
    ((¬ y1 = 0 →
      zWL E l mL_law_ d b G0 Q k9 2293 [some (.ref q0), some (.ref q1), some (.ref q2), some (.ref q3), some (.int x4), none, none] [] G8) ∧
    (¬ (¬ y1 = 0) →
      zar G8 q3 3 ∧ vp_in 0 (zln G8 q3) ∧
      (((lg_cmp ((ziv G8 q3 (0 : Int32).toNatClampNeg)).toInt64 (y4).toInt64) = 0 →
        zWL E l mL_law_ d b G0 Q k9 2293 [some (.ref q0), some (.ref q1), some (.ref q2), some (.ref q3), some (.int x4), none, none] [] G8) ∧
      (¬ ((lg_cmp ((ziv G8 q3 (0 : Int32).toNatClampNeg)).toInt64 (y4).toInt64) = 0) →
        Q (.inl (some (.int 0))) G8))))) ∧
  (¬ (y7 = y1) →
    Q (.inl (some (.int 0))) G8)))))
theorem wpt_L_law__286 {E : ZE} {l : Launch} {d b : Nat} {G0 : ZG} {Q : ZQ} {k : Nat} {q0 : Nat} {q1 : Nat} {q2 : Nat} {q3 : Nat} {x4 : Int32} {G : ZG} (h : wp_L_law__286 E l d b G0 Q k q0 q1 q2 q3 x4 G) : zWL E l mL_law_ d b G0 Q k 286 [some (.ref q0), some (.ref q1), some (.ref q2), some (.ref q3), some (.int x4), none, none] [] G := by
  unfold wp_L_law__286 at h
  refine y_aload_n (pc' := 287) dL_law__286 rfl rfl ?_
  refine y_aload_n (pc' := 288) dL_law__287 rfl rfl ?_
  refine y_iload (pc' := 290) dL_law__288 rfl rfl ?_
  refine y_iconst (x := 1) (pc' := 291) dL_law__290 (by decide) rfl ?_
  refine y_iadd (pc' := 292) dL_law__291 rfl rfl ?_
  obtain ⟨h1, h2, h⟩ := h
  refine y_iald (pc' := 293) dL_law__292 rfl h1 h2 ?_
  refine y_aload_n (pc' := 294) dL_law__293 rfl rfl ?_
  obtain ⟨d1, b1, Qz, hm, hdd, hb, hkx, hk⟩ := h
  refine y_callH (Y := mL_law) (n := 3) (as := [.ref q1, .int (ziv G q0 (x4 + 1).toNatClampNeg), .ref q3]) (st := []) (pc' := 297) hm dL_law__294 kL_127 hL_law rfl rfl hdd hb (Nat.le_of_ble_eq_true rfl) (fun r G2 hz => ?_) hkx
  obtain ⟨y1, rfl, h⟩ := hk r G2 hz
  refine y_istore (pc' := 299) dL_law__297 (by decide) rfl ?_
  refine y_aload_n (pc' := 300) dL_law__299 rfl rfl ?_
  refine y_aload_n (pc' := 301) dL_law__300 rfl rfl ?_
  refine y_iload (pc' := 303) dL_law__301 rfl rfl ?_
  refine y_iconst (x := 1) (pc' := 304) dL_law__303 (by decide) rfl ?_
  refine y_iadd (pc' := 305) dL_law__304 rfl rfl ?_
  obtain ⟨h1, h2, h⟩ := h
  refine y_iald (pc' := 306) dL_law__305 rfl h1 h2 ?_
  obtain ⟨h1, h⟩ := h
  obtain ⟨d1, b1, Qz, hm, hdd, hb, hkx, hk⟩ := h
  refine y_callV (Y := mX12_law) (n := 1) (as := [.int (ziv G2 q0 (x4 + 1).toNatClampNeg)]) (st := []) (pc' := 309) (ci := 13) (q := q2) hm dL_law__306 kL_132 vX12_law rfl rfl (by decide) rfl h1 hdd hb (Nat.le_of_ble_eq_true rfl) (fun r G5 hz => ?_) hkx
  obtain ⟨y4, rfl, h⟩ := hk r G5 hz
  refine y_istore (pc' := 311) dL_law__309 (by decide) rfl ?_
  refine y_aload_n (pc' := 312) dL_law__311 rfl rfl ?_
  obtain ⟨h1, h⟩ := h
  obtain ⟨d1, b1, Qz, hm, hdd, hb, hkx, hk⟩ := h
  refine y_callV (Y := mX12_thrown) (n := 0) (as := []) (st := []) (pc' := 315) (ci := 13) (q := q2) hm dL_law__312 kL_133 vX12_thrown rfl rfl (by decide) rfl h1 hdd hb (Nat.le_of_ble_eq_true rfl) (fun r G8 hz => ?_) hkx
  obtain ⟨y7, rfl, h⟩ := hk r G8 hz
  refine y_iload (pc' := 317) dL_law__315 rfl rfl ?_
  refine y_icmp_eq (pt := 322) (pc' := 320) dL_law__317 (by decide) rfl (fun hc => ?_) (fun hc => ?_)
  · have h := h.1 hc
    refine y_iload (pc' := 324) dL_law__322 rfl rfl ?_
    refine y_if_ne (pt := 339) (pc' := 327) dL_law__324 (by decide) rfl (fun hc => ?_) (fun hc => ?_)
    · have h := h.1 hc
      refine y_goto (pc' := 2293) dL_law__339 (by decide) ?_
      exact y_dr (ls' := [some (.ref q0), some (.ref q1), some (.ref q2), some (.ref q3), some (.int x4), none, none]) ⟨rfl, rfl, rfl, rfl, rfl, trivial⟩ h
    · have h := h.2 hc
      refine y_aload_n (pc' := 328) dL_law__327 rfl rfl ?_
      refine y_iconst (x := 0) (pc' := 329) dL_law__328 (by decide) rfl ?_
      obtain ⟨h1, h2, h⟩ := h
      refine y_lald (pc' := 330) dL_law__329 rfl h1 h2 ?_
      refine y_iload (pc' := 332) dL_law__330 rfl rfl ?_
      refine y_i2l (pc' := 333) dL_law__332 rfl ?_
      refine y_lcmp (pc' := 334) dL_law__333 rfl rfl ?_
      refine y_if_eq (pt := 339) (pc' := 337) dL_law__334 (by decide) rfl (fun hc => ?_) (fun hc => ?_)
      · have h := h.1 hc
        refine y_goto (pc' := 2293) dL_law__339 (by decide) ?_
        exact y_dr (ls' := [some (.ref q0), some (.ref q1), some (.ref q2), some (.ref q3), some (.int x4), none, none]) ⟨rfl, rfl, rfl, rfl, rfl, trivial⟩ h
      · have h := h.2 hc
        refine y_iconst (x := 0) (pc' := 338) dL_law__337 (by decide) rfl ?_
        exact y_zret (ty := .boolean) dL_law__338 rfl (by decide) h
  · have h := h.2 hc
    refine y_iconst (x := 0) (pc' := 321) dL_law__320 (by decide) rfl ?_
    exact y_zret (ty := .boolean) dL_law__321 rfl (by decide) h
def wp_L_law__342 (E : ZE) (l : Launch) (d b : Nat) (G0 : ZG) (Q : ZQ) (k : Nat) (q0 : Nat) (q1 : Nat) (q2 : Nat) (q3 : Nat) (x4 : Int32) (G : ZG) : Prop :=
  zob G q1 12 ∧
  xcI E l mX11_fault d [.ref q1] G k (fun X G9 => Q (.inr X) G9) (fun y1 G2 k3 =>
  zob G2 q2 13 ∧
  xcI E l mX12_fault d [.ref q2] G2 k3 (fun X G9 => Q (.inr X) G9) (fun y4 G5 k6 =>
  ((y1 = y4 →
    zWL E l mL_law_ d b G0 Q k6 2293 [some (.ref q0), some (.ref q1), some (.ref q2), some (.ref q3), some (.int x4), none, none] [] G5) ∧
  (¬ (y1 = y4) →
    Q (.inl (some (.int 0))) G5))))
theorem wpt_L_law__342 {E : ZE} {l : Launch} {d b : Nat} {G0 : ZG} {Q : ZQ} {k : Nat} {q0 : Nat} {q1 : Nat} {q2 : Nat} {q3 : Nat} {x4 : Int32} {G : ZG} (h : wp_L_law__342 E l d b G0 Q k q0 q1 q2 q3 x4 G) : zWL E l mL_law_ d b G0 Q k 342 [some (.ref q0), some (.ref q1), some (.ref q2), some (.ref q3), some (.int x4), none, none] [] G := by
  unfold wp_L_law__342 at h
  refine y_aload_n (pc' := 343) dL_law__342 rfl rfl ?_
  obtain ⟨h1, h⟩ := h
  obtain ⟨d1, b1, Qz, hm, hdd, hb, hkx, hk⟩ := h
  refine y_callV (Y := mX11_fault) (n := 0) (as := []) (st := []) (pc' := 346) (ci := 12) (q := q1) hm dL_law__343 kL_137 vX11_fault rfl rfl (by decide) rfl h1 hdd hb (Nat.le_of_ble_eq_true rfl) (fun r G2 hz => ?_) hkx
  obtain ⟨y1, rfl, h⟩ := hk r G2 hz
  refine y_aload_n (pc' := 347) dL_law__346 rfl rfl ?_
  obtain ⟨h1, h⟩ := h
  obtain ⟨d1, b1, Qz, hm, hdd, hb, hkx, hk⟩ := h
  refine y_callV (Y := mX12_fault) (n := 0) (as := []) (st := [.int y1]) (pc' := 350) (ci := 13) (q := q2) hm dL_law__347 kL_140 vX12_fault rfl rfl (by decide) rfl h1 hdd hb (Nat.le_of_ble_eq_true rfl) (fun r G5 hz => ?_) hkx
  obtain ⟨y4, rfl, h⟩ := hk r G5 hz
  refine y_icmp_eq (pt := 2293) (pc' := 353) dL_law__350 (by decide) rfl (fun hc => ?_) (fun hc => ?_)
  · have h := h.1 hc
    exact y_dr (ls' := [some (.ref q0), some (.ref q1), some (.ref q2), some (.ref q3), some (.int x4), none, none]) ⟨rfl, rfl, rfl, rfl, rfl, trivial⟩ h
  · have h := h.2 hc
    refine y_iconst (x := 0) (pc' := 354) dL_law__353 (by decide) rfl ?_
    exact y_zret (ty := .boolean) dL_law__354 rfl (by decide) h
def wp_L_law__355 (E : ZE) (l : Launch) (d b : Nat) (G0 : ZG) (Q : ZQ) (k : Nat) (q0 : Nat) (q1 : Nat) (q2 : Nat) (q3 : Nat) (x4 : Int32) (G : ZG) : Prop :=
  (zar G q0 0 ∨ zrd G q0 .int) ∧ vp_in (x4 + 1) (zln G q0) ∧
  (zar G q0 0 ∨ zrd G q0 .int) ∧ vp_in (x4 + 2) (zln G q0) ∧
  (((ziv G q0 (x4 + 2).toNatClampNeg) = 0 →
    zWL E l mL_law_ d b G0 Q k 376 [some (.ref q0), some (.ref q1), some (.ref q2), some (.ref q3), some (.int x4), none, none] [.int 0, .int (ziv G q0 (x4 + 1).toNatClampNeg), .ref q1] G) ∧
  (¬ ((ziv G q0 (x4 + 2).toNatClampNeg) = 0) →
    zWL E l mL_law_ d b G0 Q k 376 [some (.ref q0), some (.ref q1), some (.ref q2), some (.ref q3), some (.int x4), none, none] [.int 1, .int (ziv G q0 (x4 + 1).toNatClampNeg), .ref q1] G))
theorem wpt_L_law__355 {E : ZE} {l : Launch} {d b : Nat} {G0 : ZG} {Q : ZQ} {k : Nat} {q0 : Nat} {q1 : Nat} {q2 : Nat} {q3 : Nat} {x4 : Int32} {G : ZG} (h : wp_L_law__355 E l d b G0 Q k q0 q1 q2 q3 x4 G) : zWL E l mL_law_ d b G0 Q k 355 [some (.ref q0), some (.ref q1), some (.ref q2), some (.ref q3), some (.int x4), none, none] [] G := by
  unfold wp_L_law__355 at h
  refine y_aload_n (pc' := 356) dL_law__355 rfl rfl ?_
  refine y_aload_n (pc' := 357) dL_law__356 rfl rfl ?_
  refine y_iload (pc' := 359) dL_law__357 rfl rfl ?_
  refine y_iconst (x := 1) (pc' := 360) dL_law__359 (by decide) rfl ?_
  refine y_iadd (pc' := 361) dL_law__360 rfl rfl ?_
  obtain ⟨h1, h2, h⟩ := h
  refine y_iald (pc' := 362) dL_law__361 rfl h1 h2 ?_
  refine y_aload_n (pc' := 363) dL_law__362 rfl rfl ?_
  refine y_iload (pc' := 365) dL_law__363 rfl rfl ?_
  refine y_iconst (x := 2) (pc' := 366) dL_law__365 (by decide) rfl ?_
  refine y_iadd (pc' := 367) dL_law__366 rfl rfl ?_
  obtain ⟨h1, h2, h⟩ := h
  refine y_iald (pc' := 368) dL_law__367 rfl h1 h2 ?_
  refine y_if_eq (pt := 375) (pc' := 371) dL_law__368 (by decide) rfl (fun hc => ?_) (fun hc => ?_)
  · have h := h.1 hc
    refine y_iconst (x := 0) (pc' := 376) dL_law__375 (by decide) rfl ?_
    exact y_dr (ls' := [some (.ref q0), some (.ref q1), some (.ref q2), some (.ref q3), some (.int x4), none, none]) ⟨rfl, rfl, rfl, rfl, rfl, trivial⟩ h
  · have h := h.2 hc
    refine y_iconst (x := 1) (pc' := 372) dL_law__371 (by decide) rfl ?_
    refine y_goto (pc' := 376) dL_law__372 (by decide) ?_
    exact y_dr (ls' := [some (.ref q0), some (.ref q1), some (.ref q2), some (.ref q3), some (.int x4), none, none]) ⟨rfl, rfl, rfl, rfl, rfl, trivial⟩ h
def wp_L_law__376 (E : ZE) (l : Launch) (d b : Nat) (G0 : ZG) (Q : ZQ) (k : Nat) (q0 : Nat) (q1 : Nat) (q2 : Nat) (q3 : Nat) (x4 : Int32) (s0 : Int32) (s1 : Int32) (p2 : Nat) (G : ZG) : Prop :=
  (zar G q0 0 ∨ zrd G q0 .int) ∧ vp_in (x4 + 3) (zln G q0) ∧
  (zar G q0 0 ∨ zrd G q0 .int) ∧ vp_in (x4 + 4) (zln G q0) ∧
  (zar G q0 0 ∨ zrd G q0 .int) ∧ vp_in (x4 + 5) (zln G q0) ∧
  (zar G q0 0 ∨ zrd G q0 .int) ∧ vp_in (x4 + 6) (zln G q0) ∧
  (zar G q0 0 ∨ zrd G q0 .int) ∧ vp_in (x4 + 7) (zln G q0) ∧
  xhI [(0, 20, 23, 13), (0, 20, 27, 15)] E l mL_person d [.ref p2, .int s1, .int s0, .int (ziv G q0 (x4 + 3).toNatClampNeg), .int (ziv G q0 (x4 + 4).toNatClampNeg), .int (ziv G q0 (x4 + 5).toNatClampNeg), .int (ziv G q0 (x4 + 6).toNatClampNeg), .int (ziv G q0 (x4 + 7).toNatClampNeg), .ref q3] G k (fun X G9 => Q (.inr X) G9) (fun y1 G2 k3 =>
  (zar G2 q0 0 ∨ zrd G2 q0 .int) ∧ vp_in (x4 + 1) (zln G2 q0) ∧
  (zar G2 q0 0 ∨ zrd G2 q0 .int) ∧ vp_in (x4 + 2) (zln G2 q0) ∧
  (((ziv G2 q0 (x4 + 2).toNatClampNeg) = 0 →
    zWL E l mL_law_ d b G0 Q k3 435 [some (.ref q0), some (.ref q1), some (.ref q2), some (.ref q3), some (.int x4), some (.int y1), none] [.int 0, .int (ziv G2 q0 (x4 + 1).toNatClampNeg), .ref q2] G2) ∧
  (¬ ((ziv G2 q0 (x4 + 2).toNatClampNeg) = 0) →
    zWL E l mL_law_ d b G0 Q k3 435 [some (.ref q0), some (.ref q1), some (.ref q2), some (.ref q3), some (.int x4), some (.int y1), none] [.int 1, .int (ziv G2 q0 (x4 + 1).toNatClampNeg), .ref q2] G2)))
theorem wpt_L_law__376 {E : ZE} {l : Launch} {d b : Nat} {G0 : ZG} {Q : ZQ} {k : Nat} {q0 : Nat} {q1 : Nat} {q2 : Nat} {q3 : Nat} {x4 : Int32} {s0 : Int32} {s1 : Int32} {p2 : Nat} {G : ZG} (h : wp_L_law__376 E l d b G0 Q k q0 q1 q2 q3 x4 s0 s1 p2 G) : zWL E l mL_law_ d b G0 Q k 376 [some (.ref q0), some (.ref q1), some (.ref q2), some (.ref q3), some (.int x4), none, none] [.int s0, .int s1, .ref p2] G := by
  unfold wp_L_law__376 at h
  refine y_aload_n (pc' := 377) dL_law__376 rfl rfl ?_
  refine y_iload (pc' := 379) dL_law__377 rfl rfl ?_
  refine y_iconst (x := 3) (pc' := 380) dL_law__379 (by decide) rfl ?_
  refine y_iadd (pc' := 381) dL_law__380 rfl rfl ?_
  obtain ⟨h1, h2, h⟩ := h
  refine y_iald (pc' := 382) dL_law__381 rfl h1 h2 ?_
  refine y_aload_n (pc' := 383) dL_law__382 rfl rfl ?_
  refine y_iload (pc' := 385) dL_law__383 rfl rfl ?_
  refine y_iconst (x := 4) (pc' := 386) dL_law__385 (by decide) rfl ?_
  refine y_iadd (pc' := 387) dL_law__386 rfl rfl ?_
  obtain ⟨h1, h2, h⟩ := h
  refine y_iald (pc' := 388) dL_law__387 rfl h1 h2 ?_
  refine y_aload_n (pc' := 389) dL_law__388 rfl rfl ?_
  refine y_iload (pc' := 391) dL_law__389 rfl rfl ?_
  refine y_iconst (x := 5) (pc' := 392) dL_law__391 (by decide) rfl ?_
  refine y_iadd (pc' := 393) dL_law__392 rfl rfl ?_
  obtain ⟨h1, h2, h⟩ := h
  refine y_iald (pc' := 394) dL_law__393 rfl h1 h2 ?_
  refine y_aload_n (pc' := 395) dL_law__394 rfl rfl ?_
  refine y_iload (pc' := 397) dL_law__395 rfl rfl ?_
  refine y_bipush (x := 6) (pc' := 399) dL_law__397 (by decide) rfl ?_
  refine y_iadd (pc' := 400) dL_law__399 rfl rfl ?_
  obtain ⟨h1, h2, h⟩ := h
  refine y_iald (pc' := 401) dL_law__400 rfl h1 h2 ?_
  refine y_aload_n (pc' := 402) dL_law__401 rfl rfl ?_
  refine y_iload (pc' := 404) dL_law__402 rfl rfl ?_
  refine y_bipush (x := 7) (pc' := 406) dL_law__404 (by decide) rfl ?_
  refine y_iadd (pc' := 407) dL_law__406 rfl rfl ?_
  obtain ⟨h1, h2, h⟩ := h
  refine y_iald (pc' := 408) dL_law__407 rfl h1 h2 ?_
  refine y_aload_n (pc' := 409) dL_law__408 rfl rfl ?_
  obtain ⟨d1, b1, Qz, hm, hdd, hb, hkx, hk⟩ := h
  refine y_callH (Y := mL_person) (n := 9) (as := [.ref p2, .int s1, .int s0, .int (ziv G q0 (x4 + 3).toNatClampNeg), .int (ziv G q0 (x4 + 4).toNatClampNeg), .int (ziv G q0 (x4 + 5).toNatClampNeg), .int (ziv G q0 (x4 + 6).toNatClampNeg), .int (ziv G q0 (x4 + 7).toNatClampNeg), .ref q3]) (st := []) (pc' := 412) hm dL_law__409 kL_141 hL_person rfl rfl hdd hb (Nat.le_of_ble_eq_true rfl) (fun r G2 hz => ?_) hkx
  obtain ⟨y1, rfl, h⟩ := hk r G2 hz
  refine y_istore (pc' := 414) dL_law__412 (by decide) rfl ?_
  refine y_aload_n (pc' := 415) dL_law__414 rfl rfl ?_
  refine y_aload_n (pc' := 416) dL_law__415 rfl rfl ?_
  refine y_iload (pc' := 418) dL_law__416 rfl rfl ?_
  refine y_iconst (x := 1) (pc' := 419) dL_law__418 (by decide) rfl ?_
  refine y_iadd (pc' := 420) dL_law__419 rfl rfl ?_
  obtain ⟨h1, h2, h⟩ := h
  refine y_iald (pc' := 421) dL_law__420 rfl h1 h2 ?_
  refine y_aload_n (pc' := 422) dL_law__421 rfl rfl ?_
  refine y_iload (pc' := 424) dL_law__422 rfl rfl ?_
  refine y_iconst (x := 2) (pc' := 425) dL_law__424 (by decide) rfl ?_
  refine y_iadd (pc' := 426) dL_law__425 rfl rfl ?_
  obtain ⟨h1, h2, h⟩ := h
  refine y_iald (pc' := 427) dL_law__426 rfl h1 h2 ?_
  refine y_if_eq (pt := 434) (pc' := 430) dL_law__427 (by decide) rfl (fun hc => ?_) (fun hc => ?_)
  · have h := h.1 hc
    refine y_iconst (x := 0) (pc' := 435) dL_law__434 (by decide) rfl ?_
    exact y_dr (ls' := [some (.ref q0), some (.ref q1), some (.ref q2), some (.ref q3), some (.int x4), some (.int y1), none]) ⟨rfl, rfl, rfl, rfl, rfl, rfl, trivial⟩ h
  · have h := h.2 hc
    refine y_iconst (x := 1) (pc' := 431) dL_law__430 (by decide) rfl ?_
    refine y_goto (pc' := 435) dL_law__431 (by decide) ?_
    exact y_dr (ls' := [some (.ref q0), some (.ref q1), some (.ref q2), some (.ref q3), some (.int x4), some (.int y1), none]) ⟨rfl, rfl, rfl, rfl, rfl, rfl, trivial⟩ h
def wp_L_law__435 (E : ZE) (l : Launch) (d b : Nat) (G0 : ZG) (Q : ZQ) (k : Nat) (q0 : Nat) (q1 : Nat) (q2 : Nat) (q3 : Nat) (x4 : Int32) (x5 : Int32) (s0 : Int32) (s1 : Int32) (p2 : Nat) (G : ZG) : Prop :=
  (zar G q0 0 ∨ zrd G q0 .int) ∧ vp_in (x4 + 3) (zln G q0) ∧
  (zar G q0 0 ∨ zrd G q0 .int) ∧ vp_in (x4 + 4) (zln G q0) ∧
  (zar G q0 0 ∨ zrd G q0 .int) ∧ vp_in (x4 + 5) (zln G q0) ∧
  (zar G q0 0 ∨ zrd G q0 .int) ∧ vp_in (x4 + 6) (zln G q0) ∧
  (zar G q0 0 ∨ zrd G q0 .int) ∧ vp_in (x4 + 7) (zln G q0) ∧
  zob G p2 13 ∧
  xcI E l mX12_person d [.ref p2, .int s1, .int s0, .int (ziv G q0 (x4 + 3).toNatClampNeg), .int (ziv G q0 (x4 + 4).toNatClampNeg), .int (ziv G q0 (x4 + 5).toNatClampNeg), .int (ziv G q0 (x4 + 6).toNatClampNeg), .int (ziv G q0 (x4 + 7).toNatClampNeg)] G k (fun X G9 => Q (.inr X) G9) (fun y1 G2 k3 =>
  zob G2 q2 13 ∧
  xcI E l mX12_thrown d [.ref q2] G2 k3 (fun X G9 => Q (.inr X) G9) (fun y4 G5 k6 =>
  ((y4 = x5 →
    ((¬ x5 = 0 →
      zWL E l mL_law_ d b G0 Q k6 2293 [some (.ref q0), some (.ref q1), some (.ref q2), some (.ref q3), some (.int x4), none, none] [] G5) ∧
    (¬ (¬ x5 = 0) →
      zar G5 q3 3 ∧ vp_in 0 (zln G5 q3) ∧
      (((lg_cmp ((ziv G5 q3 (0 : Int32).toNatClampNeg)).toInt64 (y1).toInt64) = 0 →
        zWL E l mL_law_ d b G0 Q k6 2293 [some (.ref q0), some (.ref q1), some (.ref q2), some (.ref q3), some (.int x4), none, none] [] G5) ∧
      (¬ ((lg_cmp ((ziv G5 q3 (0 : Int32).toNatClampNeg)).toInt64 (y1).toInt64) = 0) →
        Q (.inl (some (.int 0))) G5))))) ∧
  (¬ (y4 = x5) →
    Q (.inl (some (.int 0))) G5))))
theorem wpt_L_law__435 {E : ZE} {l : Launch} {d b : Nat} {G0 : ZG} {Q : ZQ} {k : Nat} {q0 : Nat} {q1 : Nat} {q2 : Nat} {q3 : Nat} {x4 : Int32} {x5 : Int32} {s0 : Int32} {s1 : Int32} {p2 : Nat} {G : ZG} (h : wp_L_law__435 E l d b G0 Q k q0 q1 q2 q3 x4 x5 s0 s1 p2 G) : zWL E l mL_law_ d b G0 Q k 435 [some (.ref q0), some (.ref q1), some (.ref q2), some (.ref q3), some (.int x4), some (.int x5), none] [.int s0, .int s1, .ref p2] G := by
  unfold wp_L_law__435 at h
  refine y_aload_n (pc' := 436) dL_law__435 rfl rfl ?_
  refine y_iload (pc' := 438) dL_law__436 rfl rfl ?_
  refine y_iconst (x := 3) (pc' := 439) dL_law__438 (by decide) rfl ?_
  refine y_iadd (pc' := 440) dL_law__439 rfl rfl ?_
  obtain ⟨h1, h2, h⟩ := h
  refine y_iald (pc' := 441) dL_law__440 rfl h1 h2 ?_
  refine y_aload_n (pc' := 442) dL_law__441 rfl rfl ?_
  refine y_iload (pc' := 444) dL_law__442 rfl rfl ?_
  refine y_iconst (x := 4) (pc' := 445) dL_law__444 (by decide) rfl ?_
  refine y_iadd (pc' := 446) dL_law__445 rfl rfl ?_
  obtain ⟨h1, h2, h⟩ := h
  refine y_iald (pc' := 447) dL_law__446 rfl h1 h2 ?_
  refine y_aload_n (pc' := 448) dL_law__447 rfl rfl ?_
  refine y_iload (pc' := 450) dL_law__448 rfl rfl ?_
  refine y_iconst (x := 5) (pc' := 451) dL_law__450 (by decide) rfl ?_
  refine y_iadd (pc' := 452) dL_law__451 rfl rfl ?_
  obtain ⟨h1, h2, h⟩ := h
  refine y_iald (pc' := 453) dL_law__452 rfl h1 h2 ?_
  refine y_aload_n (pc' := 454) dL_law__453 rfl rfl ?_
  refine y_iload (pc' := 456) dL_law__454 rfl rfl ?_
  refine y_bipush (x := 6) (pc' := 458) dL_law__456 (by decide) rfl ?_
  refine y_iadd (pc' := 459) dL_law__458 rfl rfl ?_
  obtain ⟨h1, h2, h⟩ := h
  refine y_iald (pc' := 460) dL_law__459 rfl h1 h2 ?_
  refine y_aload_n (pc' := 461) dL_law__460 rfl rfl ?_
  refine y_iload (pc' := 463) dL_law__461 rfl rfl ?_
  refine y_bipush (x := 7) (pc' := 465) dL_law__463 (by decide) rfl ?_
  refine y_iadd (pc' := 466) dL_law__465 rfl rfl ?_
  obtain ⟨h1, h2, h⟩ := h
  refine y_iald (pc' := 467) dL_law__466 rfl h1 h2 ?_
  obtain ⟨h1, h⟩ := h
  obtain ⟨d1, b1, Qz, hm, hdd, hb, hkx, hk⟩ := h
  refine y_callV (Y := mX12_person) (n := 7) (as := [.int s1, .int s0, .int (ziv G q0 (x4 + 3).toNatClampNeg), .int (ziv G q0 (x4 + 4).toNatClampNeg), .int (ziv G q0 (x4 + 5).toNatClampNeg), .int (ziv G q0 (x4 + 6).toNatClampNeg), .int (ziv G q0 (x4 + 7).toNatClampNeg)]) (st := []) (pc' := 470) (ci := 13) (q := p2) hm dL_law__467 kL_144 vX12_person rfl rfl (by decide) rfl h1 hdd hb (Nat.le_of_ble_eq_true rfl) (fun r G2 hz => ?_) hkx
  obtain ⟨y1, rfl, h⟩ := hk r G2 hz
  refine y_istore (pc' := 472) dL_law__470 (by decide) rfl ?_
  refine y_aload_n (pc' := 473) dL_law__472 rfl rfl ?_
  obtain ⟨h1, h⟩ := h
  obtain ⟨d1, b1, Qz, hm, hdd, hb, hkx, hk⟩ := h
  refine y_callV (Y := mX12_thrown) (n := 0) (as := []) (st := []) (pc' := 476) (ci := 13) (q := q2) hm dL_law__473 kL_133 vX12_thrown rfl rfl (by decide) rfl h1 hdd hb (Nat.le_of_ble_eq_true rfl) (fun r G5 hz => ?_) hkx
  obtain ⟨y4, rfl, h⟩ := hk r G5 hz
  refine y_iload (pc' := 478) dL_law__476 rfl rfl ?_
  refine y_icmp_eq (pt := 483) (pc' := 481) dL_law__478 (by decide) rfl (fun hc => ?_) (fun hc => ?_)
  · have h := h.1 hc
    refine y_iload (pc' := 485) dL_law__483 rfl rfl ?_
    refine y_if_ne (pt := 500) (pc' := 488) dL_law__485 (by decide) rfl (fun hc => ?_) (fun hc => ?_)
    · have h := h.1 hc
      refine y_goto (pc' := 2293) dL_law__500 (by decide) ?_
      exact y_dr (ls' := [some (.ref q0), some (.ref q1), some (.ref q2), some (.ref q3), some (.int x4), none, none]) ⟨rfl, rfl, rfl, rfl, rfl, trivial⟩ h
    · have h := h.2 hc
      refine y_aload_n (pc' := 489) dL_law__488 rfl rfl ?_
      refine y_iconst (x := 0) (pc' := 490) dL_law__489 (by decide) rfl ?_
      obtain ⟨h1, h2, h⟩ := h
      refine y_lald (pc' := 491) dL_law__490 rfl h1 h2 ?_
      refine y_iload (pc' := 493) dL_law__491 rfl rfl ?_
      refine y_i2l (pc' := 494) dL_law__493 rfl ?_
      refine y_lcmp (pc' := 495) dL_law__494 rfl rfl ?_
      refine y_if_eq (pt := 500) (pc' := 498) dL_law__495 (by decide) rfl (fun hc => ?_) (fun hc => ?_)
      · have h := h.1 hc
        refine y_goto (pc' := 2293) dL_law__500 (by decide) ?_
        exact y_dr (ls' := [some (.ref q0), some (.ref q1), some (.ref q2), some (.ref q3), some (.int x4), none, none]) ⟨rfl, rfl, rfl, rfl, rfl, trivial⟩ h
      · have h := h.2 hc
        refine y_iconst (x := 0) (pc' := 499) dL_law__498 (by decide) rfl ?_
        exact y_zret (ty := .boolean) dL_law__499 rfl (by decide) h
  · have h := h.2 hc
    refine y_iconst (x := 0) (pc' := 482) dL_law__481 (by decide) rfl ?_
    exact y_zret (ty := .boolean) dL_law__482 rfl (by decide) h
def wp_L_law__503 (E : ZE) (l : Launch) (d b : Nat) (G0 : ZG) (Q : ZQ) (k : Nat) (q0 : Nat) (q1 : Nat) (q2 : Nat) (q3 : Nat) (x4 : Int32) (G : ZG) : Prop :=
  (zar G q0 0 ∨ zrd G q0 .int) ∧ vp_in (x4 + 1) (zln G q0) ∧
  xhI [(0, 9, 12, 24), (0, 9, 15, 13)] E l mL_name d [.ref q1, .int (ziv G q0 (x4 + 1).toNatClampNeg), .ref q3] G k (fun X G9 => Q (.inr X) G9) (fun y1 G2 k3 =>
  (zar G2 q0 0 ∨ zrd G2 q0 .int) ∧ vp_in (x4 + 1) (zln G2 q0) ∧
  zob G2 q2 13 ∧
  xcI E l mX12_name d [.ref q2, .int (ziv G2 q0 (x4 + 1).toNatClampNeg)] G2 k3 (fun X G9 => Q (.inr X) G9) (fun y4 G5 k6 =>
  zob G5 q2 13 ∧
  xcI E l mX12_thrown d [.ref q2] G5 k6 (fun X G9 => Q (.inr X) G9) (fun y7 G8 k9 =>
  ((y7 = y1 →
    ((¬ y1 = 0 →
      zWL E l mL_law_ d b G0 Q k9 2293 [some (.ref q0), some (.ref q1), some (.ref q2), some (.ref q3), some (.int x4), none, none] [] G8) ∧
    (¬ (¬ y1 = 0) →
      zar G8 q3 3 ∧ vp_in 0 (zln G8 q3) ∧
      (((lg_cmp ((ziv G8 q3 (0 : Int32).toNatClampNeg)).toInt64 (y4).toInt64) = 0 →
        zWL E l mL_law_ d b G0 Q k9 2293 [some (.ref q0), some (.ref q1), some (.ref q2), some (.ref q3), some (.int x4), none, none] [] G8) ∧
      (¬ ((lg_cmp ((ziv G8 q3 (0 : Int32).toNatClampNeg)).toInt64 (y4).toInt64) = 0) →
        Q (.inl (some (.int 0))) G8))))) ∧
  (¬ (y7 = y1) →
    Q (.inl (some (.int 0))) G8)))))
theorem wpt_L_law__503 {E : ZE} {l : Launch} {d b : Nat} {G0 : ZG} {Q : ZQ} {k : Nat} {q0 : Nat} {q1 : Nat} {q2 : Nat} {q3 : Nat} {x4 : Int32} {G : ZG} (h : wp_L_law__503 E l d b G0 Q k q0 q1 q2 q3 x4 G) : zWL E l mL_law_ d b G0 Q k 503 [some (.ref q0), some (.ref q1), some (.ref q2), some (.ref q3), some (.int x4), none, none] [] G := by
  unfold wp_L_law__503 at h
  refine y_aload_n (pc' := 504) dL_law__503 rfl rfl ?_
  refine y_aload_n (pc' := 505) dL_law__504 rfl rfl ?_
  refine y_iload (pc' := 507) dL_law__505 rfl rfl ?_
  refine y_iconst (x := 1) (pc' := 508) dL_law__507 (by decide) rfl ?_
  refine y_iadd (pc' := 509) dL_law__508 rfl rfl ?_
  obtain ⟨h1, h2, h⟩ := h
  refine y_iald (pc' := 510) dL_law__509 rfl h1 h2 ?_
  refine y_aload_n (pc' := 511) dL_law__510 rfl rfl ?_
  obtain ⟨d1, b1, Qz, hm, hdd, hb, hkx, hk⟩ := h
  refine y_callH (Y := mL_name) (n := 3) (as := [.ref q1, .int (ziv G q0 (x4 + 1).toNatClampNeg), .ref q3]) (st := []) (pc' := 514) hm dL_law__511 kL_145 hL_name rfl rfl hdd hb (Nat.le_of_ble_eq_true rfl) (fun r G2 hz => ?_) hkx
  obtain ⟨y1, rfl, h⟩ := hk r G2 hz
  refine y_istore (pc' := 516) dL_law__514 (by decide) rfl ?_
  refine y_aload_n (pc' := 517) dL_law__516 rfl rfl ?_
  refine y_aload_n (pc' := 518) dL_law__517 rfl rfl ?_
  refine y_iload (pc' := 520) dL_law__518 rfl rfl ?_
  refine y_iconst (x := 1) (pc' := 521) dL_law__520 (by decide) rfl ?_
  refine y_iadd (pc' := 522) dL_law__521 rfl rfl ?_
  obtain ⟨h1, h2, h⟩ := h
  refine y_iald (pc' := 523) dL_law__522 rfl h1 h2 ?_
  obtain ⟨h1, h⟩ := h
  obtain ⟨d1, b1, Qz, hm, hdd, hb, hkx, hk⟩ := h
  refine y_callV (Y := mX12_name) (n := 1) (as := [.int (ziv G2 q0 (x4 + 1).toNatClampNeg)]) (st := []) (pc' := 526) (ci := 13) (q := q2) hm dL_law__523 kL_147 vX12_name rfl rfl (by decide) rfl h1 hdd hb (Nat.le_of_ble_eq_true rfl) (fun r G5 hz => ?_) hkx
  obtain ⟨y4, rfl, h⟩ := hk r G5 hz
  refine y_istore (pc' := 528) dL_law__526 (by decide) rfl ?_
  refine y_aload_n (pc' := 529) dL_law__528 rfl rfl ?_
  obtain ⟨h1, h⟩ := h
  obtain ⟨d1, b1, Qz, hm, hdd, hb, hkx, hk⟩ := h
  refine y_callV (Y := mX12_thrown) (n := 0) (as := []) (st := []) (pc' := 532) (ci := 13) (q := q2) hm dL_law__529 kL_133 vX12_thrown rfl rfl (by decide) rfl h1 hdd hb (Nat.le_of_ble_eq_true rfl) (fun r G8 hz => ?_) hkx
  obtain ⟨y7, rfl, h⟩ := hk r G8 hz
  refine y_iload (pc' := 534) dL_law__532 rfl rfl ?_
  refine y_icmp_eq (pt := 539) (pc' := 537) dL_law__534 (by decide) rfl (fun hc => ?_) (fun hc => ?_)
  · have h := h.1 hc
    refine y_iload (pc' := 541) dL_law__539 rfl rfl ?_
    refine y_if_ne (pt := 556) (pc' := 544) dL_law__541 (by decide) rfl (fun hc => ?_) (fun hc => ?_)
    · have h := h.1 hc
      refine y_goto (pc' := 2293) dL_law__556 (by decide) ?_
      exact y_dr (ls' := [some (.ref q0), some (.ref q1), some (.ref q2), some (.ref q3), some (.int x4), none, none]) ⟨rfl, rfl, rfl, rfl, rfl, trivial⟩ h
    · have h := h.2 hc
      refine y_aload_n (pc' := 545) dL_law__544 rfl rfl ?_
      refine y_iconst (x := 0) (pc' := 546) dL_law__545 (by decide) rfl ?_
      obtain ⟨h1, h2, h⟩ := h
      refine y_lald (pc' := 547) dL_law__546 rfl h1 h2 ?_
      refine y_iload (pc' := 549) dL_law__547 rfl rfl ?_
      refine y_i2l (pc' := 550) dL_law__549 rfl ?_
      refine y_lcmp (pc' := 551) dL_law__550 rfl rfl ?_
      refine y_if_eq (pt := 556) (pc' := 554) dL_law__551 (by decide) rfl (fun hc => ?_) (fun hc => ?_)
      · have h := h.1 hc
        refine y_goto (pc' := 2293) dL_law__556 (by decide) ?_
        exact y_dr (ls' := [some (.ref q0), some (.ref q1), some (.ref q2), some (.ref q3), some (.int x4), none, none]) ⟨rfl, rfl, rfl, rfl, rfl, trivial⟩ h
      · have h := h.2 hc
        refine y_iconst (x := 0) (pc' := 555) dL_law__554 (by decide) rfl ?_
        exact y_zret (ty := .boolean) dL_law__555 rfl (by decide) h
  · have h := h.2 hc
    refine y_iconst (x := 0) (pc' := 538) dL_law__537 (by decide) rfl ?_
    exact y_zret (ty := .boolean) dL_law__538 rfl (by decide) h
def wp_L_law__559 (E : ZE) (l : Launch) (d b : Nat) (G0 : ZG) (Q : ZQ) (k : Nat) (q0 : Nat) (q1 : Nat) (q2 : Nat) (q3 : Nat) (x4 : Int32) (G : ZG) : Prop :=
  (zar G q0 0 ∨ zrd G q0 .int) ∧ vp_in (x4 + 1) (zln G q0) ∧
  (zar G q0 0 ∨ zrd G q0 .int) ∧ vp_in (x4 + 2) (zln G q0) ∧
  xhI [(0, 10, 13, 24)] E l mL_sign d [.ref q1, .int (ziv G q0 (x4 + 1).toNatClampNeg), .int (ziv G q0 (x4 + 2).toNatClampNeg), .ref q3] G k (fun X G9 => Q (.inr X) G9) (fun y1 G2 k3 =>
  (zar G2 q0 0 ∨ zrd G2 q0 .int) ∧ vp_in (x4 + 1) (zln G2 q0) ∧
  (zar G2 q0 0 ∨ zrd G2 q0 .int) ∧ vp_in (x4 + 2) (zln G2 q0) ∧
  zob G2 q2 13 ∧
  xcI E l mX12_sign d [.ref q2, .int (ziv G2 q0 (x4 + 1).toNatClampNeg), .int (ziv G2 q0 (x4 + 2).toNatClampNeg)] G2 k3 (fun X G9 => Q (.inr X) G9) (fun y4 G5 k6 =>
  zob G5 q2 13 ∧
  xcI E l mX12_thrown d [.ref q2] G5 k6 (fun X G9 => Q (.inr X) G9) (fun y7 G8 k9 =>
  ((y7 = y1 →
    ((¬ y1 = 0 →
      zWL E l mL_law_ d b G0 Q k9 2293 [some (.ref q0), some (.ref q1), some (.ref q2), some (.ref q3), some (.int x4), none, none] [] G8) ∧
    (¬ (¬ y1 = 0) →
      zar G8 q3 3 ∧ vp_in 0 (zln G8 q3) ∧
      (((lg_cmp ((ziv G8 q3 (0 : Int32).toNatClampNeg)).toInt64 (y4).toInt64) = 0 →
        zWL E l mL_law_ d b G0 Q k9 2293 [some (.ref q0), some (.ref q1), some (.ref q2), some (.ref q3), some (.int x4), none, none] [] G8) ∧
      (¬ ((lg_cmp ((ziv G8 q3 (0 : Int32).toNatClampNeg)).toInt64 (y4).toInt64) = 0) →
        Q (.inl (some (.int 0))) G8))))) ∧
  (¬ (y7 = y1) →
    Q (.inl (some (.int 0))) G8)))))
theorem wpt_L_law__559 {E : ZE} {l : Launch} {d b : Nat} {G0 : ZG} {Q : ZQ} {k : Nat} {q0 : Nat} {q1 : Nat} {q2 : Nat} {q3 : Nat} {x4 : Int32} {G : ZG} (h : wp_L_law__559 E l d b G0 Q k q0 q1 q2 q3 x4 G) : zWL E l mL_law_ d b G0 Q k 559 [some (.ref q0), some (.ref q1), some (.ref q2), some (.ref q3), some (.int x4), none, none] [] G := by
  unfold wp_L_law__559 at h
  refine y_aload_n (pc' := 560) dL_law__559 rfl rfl ?_
  refine y_aload_n (pc' := 561) dL_law__560 rfl rfl ?_
  refine y_iload (pc' := 563) dL_law__561 rfl rfl ?_
  refine y_iconst (x := 1) (pc' := 564) dL_law__563 (by decide) rfl ?_
  refine y_iadd (pc' := 565) dL_law__564 rfl rfl ?_
  obtain ⟨h1, h2, h⟩ := h
  refine y_iald (pc' := 566) dL_law__565 rfl h1 h2 ?_
  refine y_aload_n (pc' := 567) dL_law__566 rfl rfl ?_
  refine y_iload (pc' := 569) dL_law__567 rfl rfl ?_
  refine y_iconst (x := 2) (pc' := 570) dL_law__569 (by decide) rfl ?_
  refine y_iadd (pc' := 571) dL_law__570 rfl rfl ?_
  obtain ⟨h1, h2, h⟩ := h
  refine y_iald (pc' := 572) dL_law__571 rfl h1 h2 ?_
  refine y_aload_n (pc' := 573) dL_law__572 rfl rfl ?_
  obtain ⟨d1, b1, Qz, hm, hdd, hb, hkx, hk⟩ := h
  refine y_callH (Y := mL_sign) (n := 4) (as := [.ref q1, .int (ziv G q0 (x4 + 1).toNatClampNeg), .int (ziv G q0 (x4 + 2).toNatClampNeg), .ref q3]) (st := []) (pc' := 576) hm dL_law__573 kL_148 hL_sign rfl rfl hdd hb (Nat.le_of_ble_eq_true rfl) (fun r G2 hz => ?_) hkx
  obtain ⟨y1, rfl, h⟩ := hk r G2 hz
  refine y_istore (pc' := 578) dL_law__576 (by decide) rfl ?_
  refine y_aload_n (pc' := 579) dL_law__578 rfl rfl ?_
  refine y_aload_n (pc' := 580) dL_law__579 rfl rfl ?_
  refine y_iload (pc' := 582) dL_law__580 rfl rfl ?_
  refine y_iconst (x := 1) (pc' := 583) dL_law__582 (by decide) rfl ?_
  refine y_iadd (pc' := 584) dL_law__583 rfl rfl ?_
  obtain ⟨h1, h2, h⟩ := h
  refine y_iald (pc' := 585) dL_law__584 rfl h1 h2 ?_
  refine y_aload_n (pc' := 586) dL_law__585 rfl rfl ?_
  refine y_iload (pc' := 588) dL_law__586 rfl rfl ?_
  refine y_iconst (x := 2) (pc' := 589) dL_law__588 (by decide) rfl ?_
  refine y_iadd (pc' := 590) dL_law__589 rfl rfl ?_
  obtain ⟨h1, h2, h⟩ := h
  refine y_iald (pc' := 591) dL_law__590 rfl h1 h2 ?_
  obtain ⟨h1, h⟩ := h
  obtain ⟨d1, b1, Qz, hm, hdd, hb, hkx, hk⟩ := h
  refine y_callV (Y := mX12_sign) (n := 2) (as := [.int (ziv G2 q0 (x4 + 1).toNatClampNeg), .int (ziv G2 q0 (x4 + 2).toNatClampNeg)]) (st := []) (pc' := 594) (ci := 13) (q := q2) hm dL_law__591 kL_151 vX12_sign rfl rfl (by decide) rfl h1 hdd hb (Nat.le_of_ble_eq_true rfl) (fun r G5 hz => ?_) hkx
  obtain ⟨y4, rfl, h⟩ := hk r G5 hz
  refine y_istore (pc' := 596) dL_law__594 (by decide) rfl ?_
  refine y_aload_n (pc' := 597) dL_law__596 rfl rfl ?_
  obtain ⟨h1, h⟩ := h
  obtain ⟨d1, b1, Qz, hm, hdd, hb, hkx, hk⟩ := h
  refine y_callV (Y := mX12_thrown) (n := 0) (as := []) (st := []) (pc' := 600) (ci := 13) (q := q2) hm dL_law__597 kL_133 vX12_thrown rfl rfl (by decide) rfl h1 hdd hb (Nat.le_of_ble_eq_true rfl) (fun r G8 hz => ?_) hkx
  obtain ⟨y7, rfl, h⟩ := hk r G8 hz
  refine y_iload (pc' := 602) dL_law__600 rfl rfl ?_
  refine y_icmp_eq (pt := 607) (pc' := 605) dL_law__602 (by decide) rfl (fun hc => ?_) (fun hc => ?_)
  · have h := h.1 hc
    refine y_iload (pc' := 609) dL_law__607 rfl rfl ?_
    refine y_if_ne (pt := 624) (pc' := 612) dL_law__609 (by decide) rfl (fun hc => ?_) (fun hc => ?_)
    · have h := h.1 hc
      refine y_goto (pc' := 2293) dL_law__624 (by decide) ?_
      exact y_dr (ls' := [some (.ref q0), some (.ref q1), some (.ref q2), some (.ref q3), some (.int x4), none, none]) ⟨rfl, rfl, rfl, rfl, rfl, trivial⟩ h
    · have h := h.2 hc
      refine y_aload_n (pc' := 613) dL_law__612 rfl rfl ?_
      refine y_iconst (x := 0) (pc' := 614) dL_law__613 (by decide) rfl ?_
      obtain ⟨h1, h2, h⟩ := h
      refine y_lald (pc' := 615) dL_law__614 rfl h1 h2 ?_
      refine y_iload (pc' := 617) dL_law__615 rfl rfl ?_
      refine y_i2l (pc' := 618) dL_law__617 rfl ?_
      refine y_lcmp (pc' := 619) dL_law__618 rfl rfl ?_
      refine y_if_eq (pt := 624) (pc' := 622) dL_law__619 (by decide) rfl (fun hc => ?_) (fun hc => ?_)
      · have h := h.1 hc
        refine y_goto (pc' := 2293) dL_law__624 (by decide) ?_
        exact y_dr (ls' := [some (.ref q0), some (.ref q1), some (.ref q2), some (.ref q3), some (.int x4), none, none]) ⟨rfl, rfl, rfl, rfl, rfl, trivial⟩ h
      · have h := h.2 hc
        refine y_iconst (x := 0) (pc' := 623) dL_law__622 (by decide) rfl ?_
        exact y_zret (ty := .boolean) dL_law__623 rfl (by decide) h
  · have h := h.2 hc
    refine y_iconst (x := 0) (pc' := 606) dL_law__605 (by decide) rfl ?_
    exact y_zret (ty := .boolean) dL_law__606 rfl (by decide) h
def wp_L_law__627 (E : ZE) (l : Launch) (d b : Nat) (G0 : ZG) (Q : ZQ) (k : Nat) (q0 : Nat) (q1 : Nat) (q2 : Nat) (q3 : Nat) (x4 : Int32) (G : ZG) : Prop :=
  (zar G q0 0 ∨ zrd G q0 .int) ∧ vp_in (x4 + 1) (zln G q0) ∧
  xhI [(0, 9, 12, 24)] E l mL_figure d [.ref q1, .int (ziv G q0 (x4 + 1).toNatClampNeg), .ref q3] G k (fun X G9 => Q (.inr X) G9) (fun y1 G2 k3 =>
  (zar G2 q0 0 ∨ zrd G2 q0 .int) ∧ vp_in (x4 + 1) (zln G2 q0) ∧
  zob G2 q2 13 ∧
  xcI E l mX12_figure d [.ref q2, .int (ziv G2 q0 (x4 + 1).toNatClampNeg)] G2 k3 (fun X G9 => Q (.inr X) G9) (fun y4 G5 k6 =>
  zob G5 q2 13 ∧
  xcI E l mX12_thrown d [.ref q2] G5 k6 (fun X G9 => Q (.inr X) G9) (fun y7 G8 k9 =>
  ((y7 = y1 →
    ((¬ y1 = 0 →
      zWL E l mL_law_ d b G0 Q k9 2293 [some (.ref q0), some (.ref q1), some (.ref q2), some (.ref q3), some (.int x4), none, none] [] G8) ∧
    (¬ (¬ y1 = 0) →
      zar G8 q3 3 ∧ vp_in 0 (zln G8 q3) ∧
      (((lg_cmp ((ziv G8 q3 (0 : Int32).toNatClampNeg)).toInt64 (y4).toInt64) = 0 →
        zWL E l mL_law_ d b G0 Q k9 2293 [some (.ref q0), some (.ref q1), some (.ref q2), some (.ref q3), some (.int x4), none, none] [] G8) ∧
      (¬ ((lg_cmp ((ziv G8 q3 (0 : Int32).toNatClampNeg)).toInt64 (y4).toInt64) = 0) →
        Q (.inl (some (.int 0))) G8))))) ∧
  (¬ (y7 = y1) →
    Q (.inl (some (.int 0))) G8)))))
theorem wpt_L_law__627 {E : ZE} {l : Launch} {d b : Nat} {G0 : ZG} {Q : ZQ} {k : Nat} {q0 : Nat} {q1 : Nat} {q2 : Nat} {q3 : Nat} {x4 : Int32} {G : ZG} (h : wp_L_law__627 E l d b G0 Q k q0 q1 q2 q3 x4 G) : zWL E l mL_law_ d b G0 Q k 627 [some (.ref q0), some (.ref q1), some (.ref q2), some (.ref q3), some (.int x4), none, none] [] G := by
  unfold wp_L_law__627 at h
  refine y_aload_n (pc' := 628) dL_law__627 rfl rfl ?_
  refine y_aload_n (pc' := 629) dL_law__628 rfl rfl ?_
  refine y_iload (pc' := 631) dL_law__629 rfl rfl ?_
  refine y_iconst (x := 1) (pc' := 632) dL_law__631 (by decide) rfl ?_
  refine y_iadd (pc' := 633) dL_law__632 rfl rfl ?_
  obtain ⟨h1, h2, h⟩ := h
  refine y_iald (pc' := 634) dL_law__633 rfl h1 h2 ?_
  refine y_aload_n (pc' := 635) dL_law__634 rfl rfl ?_
  obtain ⟨d1, b1, Qz, hm, hdd, hb, hkx, hk⟩ := h
  refine y_callH (Y := mL_figure) (n := 3) (as := [.ref q1, .int (ziv G q0 (x4 + 1).toNatClampNeg), .ref q3]) (st := []) (pc' := 638) hm dL_law__635 kL_152 hL_figure rfl rfl hdd hb (Nat.le_of_ble_eq_true rfl) (fun r G2 hz => ?_) hkx
  obtain ⟨y1, rfl, h⟩ := hk r G2 hz
  refine y_istore (pc' := 640) dL_law__638 (by decide) rfl ?_
  refine y_aload_n (pc' := 641) dL_law__640 rfl rfl ?_
  refine y_aload_n (pc' := 642) dL_law__641 rfl rfl ?_
  refine y_iload (pc' := 644) dL_law__642 rfl rfl ?_
  refine y_iconst (x := 1) (pc' := 645) dL_law__644 (by decide) rfl ?_
  refine y_iadd (pc' := 646) dL_law__645 rfl rfl ?_
  obtain ⟨h1, h2, h⟩ := h
  refine y_iald (pc' := 647) dL_law__646 rfl h1 h2 ?_
  obtain ⟨h1, h⟩ := h
  obtain ⟨d1, b1, Qz, hm, hdd, hb, hkx, hk⟩ := h
  refine y_callV (Y := mX12_figure) (n := 1) (as := [.int (ziv G2 q0 (x4 + 1).toNatClampNeg)]) (st := []) (pc' := 650) (ci := 13) (q := q2) hm dL_law__647 kL_154 vX12_figure rfl rfl (by decide) rfl h1 hdd hb (Nat.le_of_ble_eq_true rfl) (fun r G5 hz => ?_) hkx
  obtain ⟨y4, rfl, h⟩ := hk r G5 hz
  refine y_istore (pc' := 652) dL_law__650 (by decide) rfl ?_
  refine y_aload_n (pc' := 653) dL_law__652 rfl rfl ?_
  obtain ⟨h1, h⟩ := h
  obtain ⟨d1, b1, Qz, hm, hdd, hb, hkx, hk⟩ := h
  refine y_callV (Y := mX12_thrown) (n := 0) (as := []) (st := []) (pc' := 656) (ci := 13) (q := q2) hm dL_law__653 kL_133 vX12_thrown rfl rfl (by decide) rfl h1 hdd hb (Nat.le_of_ble_eq_true rfl) (fun r G8 hz => ?_) hkx
  obtain ⟨y7, rfl, h⟩ := hk r G8 hz
  refine y_iload (pc' := 658) dL_law__656 rfl rfl ?_
  refine y_icmp_eq (pt := 663) (pc' := 661) dL_law__658 (by decide) rfl (fun hc => ?_) (fun hc => ?_)
  · have h := h.1 hc
    refine y_iload (pc' := 665) dL_law__663 rfl rfl ?_
    refine y_if_ne (pt := 680) (pc' := 668) dL_law__665 (by decide) rfl (fun hc => ?_) (fun hc => ?_)
    · have h := h.1 hc
      refine y_goto (pc' := 2293) dL_law__680 (by decide) ?_
      exact y_dr (ls' := [some (.ref q0), some (.ref q1), some (.ref q2), some (.ref q3), some (.int x4), none, none]) ⟨rfl, rfl, rfl, rfl, rfl, trivial⟩ h
    · have h := h.2 hc
      refine y_aload_n (pc' := 669) dL_law__668 rfl rfl ?_
      refine y_iconst (x := 0) (pc' := 670) dL_law__669 (by decide) rfl ?_
      obtain ⟨h1, h2, h⟩ := h
      refine y_lald (pc' := 671) dL_law__670 rfl h1 h2 ?_
      refine y_iload (pc' := 673) dL_law__671 rfl rfl ?_
      refine y_i2l (pc' := 674) dL_law__673 rfl ?_
      refine y_lcmp (pc' := 675) dL_law__674 rfl rfl ?_
      refine y_if_eq (pt := 680) (pc' := 678) dL_law__675 (by decide) rfl (fun hc => ?_) (fun hc => ?_)
      · have h := h.1 hc
        refine y_goto (pc' := 2293) dL_law__680 (by decide) ?_
        exact y_dr (ls' := [some (.ref q0), some (.ref q1), some (.ref q2), some (.ref q3), some (.int x4), none, none]) ⟨rfl, rfl, rfl, rfl, rfl, trivial⟩ h
      · have h := h.2 hc
        refine y_iconst (x := 0) (pc' := 679) dL_law__678 (by decide) rfl ?_
        exact y_zret (ty := .boolean) dL_law__679 rfl (by decide) h
  · have h := h.2 hc
    refine y_iconst (x := 0) (pc' := 662) dL_law__661 (by decide) rfl ?_
    exact y_zret (ty := .boolean) dL_law__662 rfl (by decide) h
def wp_L_law__683 (E : ZE) (l : Launch) (d b : Nat) (G0 : ZG) (Q : ZQ) (k : Nat) (q0 : Nat) (q1 : Nat) (q2 : Nat) (q3 : Nat) (x4 : Int32) (G : ZG) : Prop :=
  (zar G q0 0 ∨ zrd G q0 .int) ∧ vp_in (x4 + 1) (zln G q0) ∧
  (zar G q0 0 ∨ zrd G q0 .int) ∧ vp_in (x4 + 2) (zln G q0) ∧
  xhI [(0, 10, 13, 24)] E l mL_far d [.ref q1, .int (ziv G q0 (x4 + 1).toNatClampNeg), .int (ziv G q0 (x4 + 2).toNatClampNeg), .ref q3] G k (fun X G9 => Q (.inr X) G9) (fun y1 G2 k3 =>
  (zar G2 q0 0 ∨ zrd G2 q0 .int) ∧ vp_in (x4 + 1) (zln G2 q0) ∧
  (zar G2 q0 0 ∨ zrd G2 q0 .int) ∧ vp_in (x4 + 2) (zln G2 q0) ∧
  zob G2 q2 13 ∧
  xcI E l mX12_far d [.ref q2, .int (ziv G2 q0 (x4 + 1).toNatClampNeg), .int (ziv G2 q0 (x4 + 2).toNatClampNeg)] G2 k3 (fun X G9 => Q (.inr X) G9) (fun y4 G5 k6 =>
  zob G5 q2 13 ∧
  xcI E l mX12_thrown d [.ref q2] G5 k6 (fun X G9 => Q (.inr X) G9) (fun y7 G8 k9 =>
  ((y7 = y1 →
    ((¬ y1 = 0 →
      zWL E l mL_law_ d b G0 Q k9 2293 [some (.ref q0), some (.ref q1), some (.ref q2), some (.ref q3), some (.int x4), none, none] [] G8) ∧
    (¬ (¬ y1 = 0) →
      zar G8 q3 3 ∧ vp_in 0 (zln G8 q3) ∧
      (((lg_cmp ((ziv G8 q3 (0 : Int32).toNatClampNeg)).toInt64 (y4).toInt64) = 0 →
        zWL E l mL_law_ d b G0 Q k9 2293 [some (.ref q0), some (.ref q1), some (.ref q2), some (.ref q3), some (.int x4), none, none] [] G8) ∧
      (¬ ((lg_cmp ((ziv G8 q3 (0 : Int32).toNatClampNeg)).toInt64 (y4).toInt64) = 0) →
        Q (.inl (some (.int 0))) G8))))) ∧
  (¬ (y7 = y1) →
    Q (.inl (some (.int 0))) G8)))))
theorem wpt_L_law__683 {E : ZE} {l : Launch} {d b : Nat} {G0 : ZG} {Q : ZQ} {k : Nat} {q0 : Nat} {q1 : Nat} {q2 : Nat} {q3 : Nat} {x4 : Int32} {G : ZG} (h : wp_L_law__683 E l d b G0 Q k q0 q1 q2 q3 x4 G) : zWL E l mL_law_ d b G0 Q k 683 [some (.ref q0), some (.ref q1), some (.ref q2), some (.ref q3), some (.int x4), none, none] [] G := by
  unfold wp_L_law__683 at h
  refine y_aload_n (pc' := 684) dL_law__683 rfl rfl ?_
  refine y_aload_n (pc' := 685) dL_law__684 rfl rfl ?_
  refine y_iload (pc' := 687) dL_law__685 rfl rfl ?_
  refine y_iconst (x := 1) (pc' := 688) dL_law__687 (by decide) rfl ?_
  refine y_iadd (pc' := 689) dL_law__688 rfl rfl ?_
  obtain ⟨h1, h2, h⟩ := h
  refine y_iald (pc' := 690) dL_law__689 rfl h1 h2 ?_
  refine y_aload_n (pc' := 691) dL_law__690 rfl rfl ?_
  refine y_iload (pc' := 693) dL_law__691 rfl rfl ?_
  refine y_iconst (x := 2) (pc' := 694) dL_law__693 (by decide) rfl ?_
  refine y_iadd (pc' := 695) dL_law__694 rfl rfl ?_
  obtain ⟨h1, h2, h⟩ := h
  refine y_iald (pc' := 696) dL_law__695 rfl h1 h2 ?_
  refine y_aload_n (pc' := 697) dL_law__696 rfl rfl ?_
  obtain ⟨d1, b1, Qz, hm, hdd, hb, hkx, hk⟩ := h
  refine y_callH (Y := mL_far) (n := 4) (as := [.ref q1, .int (ziv G q0 (x4 + 1).toNatClampNeg), .int (ziv G q0 (x4 + 2).toNatClampNeg), .ref q3]) (st := []) (pc' := 700) hm dL_law__697 kL_155 hL_far rfl rfl hdd hb (Nat.le_of_ble_eq_true rfl) (fun r G2 hz => ?_) hkx
  obtain ⟨y1, rfl, h⟩ := hk r G2 hz
  refine y_istore (pc' := 702) dL_law__700 (by decide) rfl ?_
  refine y_aload_n (pc' := 703) dL_law__702 rfl rfl ?_
  refine y_aload_n (pc' := 704) dL_law__703 rfl rfl ?_
  refine y_iload (pc' := 706) dL_law__704 rfl rfl ?_
  refine y_iconst (x := 1) (pc' := 707) dL_law__706 (by decide) rfl ?_
  refine y_iadd (pc' := 708) dL_law__707 rfl rfl ?_
  obtain ⟨h1, h2, h⟩ := h
  refine y_iald (pc' := 709) dL_law__708 rfl h1 h2 ?_
  refine y_aload_n (pc' := 710) dL_law__709 rfl rfl ?_
  refine y_iload (pc' := 712) dL_law__710 rfl rfl ?_
  refine y_iconst (x := 2) (pc' := 713) dL_law__712 (by decide) rfl ?_
  refine y_iadd (pc' := 714) dL_law__713 rfl rfl ?_
  obtain ⟨h1, h2, h⟩ := h
  refine y_iald (pc' := 715) dL_law__714 rfl h1 h2 ?_
  obtain ⟨h1, h⟩ := h
  obtain ⟨d1, b1, Qz, hm, hdd, hb, hkx, hk⟩ := h
  refine y_callV (Y := mX12_far) (n := 2) (as := [.int (ziv G2 q0 (x4 + 1).toNatClampNeg), .int (ziv G2 q0 (x4 + 2).toNatClampNeg)]) (st := []) (pc' := 718) (ci := 13) (q := q2) hm dL_law__715 kL_157 vX12_far rfl rfl (by decide) rfl h1 hdd hb (Nat.le_of_ble_eq_true rfl) (fun r G5 hz => ?_) hkx
  obtain ⟨y4, rfl, h⟩ := hk r G5 hz
  refine y_istore (pc' := 720) dL_law__718 (by decide) rfl ?_
  refine y_aload_n (pc' := 721) dL_law__720 rfl rfl ?_
  obtain ⟨h1, h⟩ := h
  obtain ⟨d1, b1, Qz, hm, hdd, hb, hkx, hk⟩ := h
  refine y_callV (Y := mX12_thrown) (n := 0) (as := []) (st := []) (pc' := 724) (ci := 13) (q := q2) hm dL_law__721 kL_133 vX12_thrown rfl rfl (by decide) rfl h1 hdd hb (Nat.le_of_ble_eq_true rfl) (fun r G8 hz => ?_) hkx
  obtain ⟨y7, rfl, h⟩ := hk r G8 hz
  refine y_iload (pc' := 726) dL_law__724 rfl rfl ?_
  refine y_icmp_eq (pt := 731) (pc' := 729) dL_law__726 (by decide) rfl (fun hc => ?_) (fun hc => ?_)
  · have h := h.1 hc
    refine y_iload (pc' := 733) dL_law__731 rfl rfl ?_
    refine y_if_ne (pt := 748) (pc' := 736) dL_law__733 (by decide) rfl (fun hc => ?_) (fun hc => ?_)
    · have h := h.1 hc
      refine y_goto (pc' := 2293) dL_law__748 (by decide) ?_
      exact y_dr (ls' := [some (.ref q0), some (.ref q1), some (.ref q2), some (.ref q3), some (.int x4), none, none]) ⟨rfl, rfl, rfl, rfl, rfl, trivial⟩ h
    · have h := h.2 hc
      refine y_aload_n (pc' := 737) dL_law__736 rfl rfl ?_
      refine y_iconst (x := 0) (pc' := 738) dL_law__737 (by decide) rfl ?_
      obtain ⟨h1, h2, h⟩ := h
      refine y_lald (pc' := 739) dL_law__738 rfl h1 h2 ?_
      refine y_iload (pc' := 741) dL_law__739 rfl rfl ?_
      refine y_i2l (pc' := 742) dL_law__741 rfl ?_
      refine y_lcmp (pc' := 743) dL_law__742 rfl rfl ?_
      refine y_if_eq (pt := 748) (pc' := 746) dL_law__743 (by decide) rfl (fun hc => ?_) (fun hc => ?_)
      · have h := h.1 hc
        refine y_goto (pc' := 2293) dL_law__748 (by decide) ?_
        exact y_dr (ls' := [some (.ref q0), some (.ref q1), some (.ref q2), some (.ref q3), some (.int x4), none, none]) ⟨rfl, rfl, rfl, rfl, rfl, trivial⟩ h
      · have h := h.2 hc
        refine y_iconst (x := 0) (pc' := 747) dL_law__746 (by decide) rfl ?_
        exact y_zret (ty := .boolean) dL_law__747 rfl (by decide) h
  · have h := h.2 hc
    refine y_iconst (x := 0) (pc' := 730) dL_law__729 (by decide) rfl ?_
    exact y_zret (ty := .boolean) dL_law__730 rfl (by decide) h
def wp_L_law__751 (E : ZE) (l : Launch) (d b : Nat) (G0 : ZG) (Q : ZQ) (k : Nat) (q0 : Nat) (q1 : Nat) (q2 : Nat) (q3 : Nat) (x4 : Int32) (G : ZG) : Prop :=
  (zar G q0 0 ∨ zrd G q0 .int) ∧ vp_in (x4 + 1) (zln G q0) ∧
  (zar G q0 0 ∨ zrd G q0 .int) ∧ vp_in (x4 + 2) (zln G q0) ∧
  (zar G q0 0 ∨ zrd G q0 .int) ∧ vp_in (x4 + 3) (zln G q0) ∧
  (((ziv G q0 (x4 + 3).toNatClampNeg) = 0 →
    zWL E l mL_law_ d b G0 Q k 778 [some (.ref q0), some (.ref q1), some (.ref q2), some (.ref q3), some (.int x4), none, none] [.int 0, .int (ziv G q0 (x4 + 2).toNatClampNeg), .int (ziv G q0 (x4 + 1).toNatClampNeg), .ref q1] G) ∧
  (¬ ((ziv G q0 (x4 + 3).toNatClampNeg) = 0) →
    zWL E l mL_law_ d b G0 Q k 778 [some (.ref q0), some (.ref q1), some (.ref q2), some (.ref q3), some (.int x4), none, none] [.int 1, .int (ziv G q0 (x4 + 2).toNatClampNeg), .int (ziv G q0 (x4 + 1).toNatClampNeg), .ref q1] G))
theorem wpt_L_law__751 {E : ZE} {l : Launch} {d b : Nat} {G0 : ZG} {Q : ZQ} {k : Nat} {q0 : Nat} {q1 : Nat} {q2 : Nat} {q3 : Nat} {x4 : Int32} {G : ZG} (h : wp_L_law__751 E l d b G0 Q k q0 q1 q2 q3 x4 G) : zWL E l mL_law_ d b G0 Q k 751 [some (.ref q0), some (.ref q1), some (.ref q2), some (.ref q3), some (.int x4), none, none] [] G := by
  unfold wp_L_law__751 at h
  refine y_aload_n (pc' := 752) dL_law__751 rfl rfl ?_
  refine y_aload_n (pc' := 753) dL_law__752 rfl rfl ?_
  refine y_iload (pc' := 755) dL_law__753 rfl rfl ?_
  refine y_iconst (x := 1) (pc' := 756) dL_law__755 (by decide) rfl ?_
  refine y_iadd (pc' := 757) dL_law__756 rfl rfl ?_
  obtain ⟨h1, h2, h⟩ := h
  refine y_iald (pc' := 758) dL_law__757 rfl h1 h2 ?_
  refine y_aload_n (pc' := 759) dL_law__758 rfl rfl ?_
  refine y_iload (pc' := 761) dL_law__759 rfl rfl ?_
  refine y_iconst (x := 2) (pc' := 762) dL_law__761 (by decide) rfl ?_
  refine y_iadd (pc' := 763) dL_law__762 rfl rfl ?_
  obtain ⟨h1, h2, h⟩ := h
  refine y_iald (pc' := 764) dL_law__763 rfl h1 h2 ?_
  refine y_aload_n (pc' := 765) dL_law__764 rfl rfl ?_
  refine y_iload (pc' := 767) dL_law__765 rfl rfl ?_
  refine y_iconst (x := 3) (pc' := 768) dL_law__767 (by decide) rfl ?_
  refine y_iadd (pc' := 769) dL_law__768 rfl rfl ?_
  obtain ⟨h1, h2, h⟩ := h
  refine y_iald (pc' := 770) dL_law__769 rfl h1 h2 ?_
  refine y_if_eq (pt := 777) (pc' := 773) dL_law__770 (by decide) rfl (fun hc => ?_) (fun hc => ?_)
  · have h := h.1 hc
    refine y_iconst (x := 0) (pc' := 778) dL_law__777 (by decide) rfl ?_
    exact y_dr (ls' := [some (.ref q0), some (.ref q1), some (.ref q2), some (.ref q3), some (.int x4), none, none]) ⟨rfl, rfl, rfl, rfl, rfl, trivial⟩ h
  · have h := h.2 hc
    refine y_iconst (x := 1) (pc' := 774) dL_law__773 (by decide) rfl ?_
    refine y_goto (pc' := 778) dL_law__774 (by decide) ?_
    exact y_dr (ls' := [some (.ref q0), some (.ref q1), some (.ref q2), some (.ref q3), some (.int x4), none, none]) ⟨rfl, rfl, rfl, rfl, rfl, trivial⟩ h
def wp_L_law__778 (E : ZE) (l : Launch) (d b : Nat) (G0 : ZG) (Q : ZQ) (k : Nat) (q0 : Nat) (q1 : Nat) (q2 : Nat) (q3 : Nat) (x4 : Int32) (s0 : Int32) (s1 : Int32) (s2 : Int32) (p3 : Nat) (G : ZG) : Prop :=
  xhI [(0, 12, 15, 24), (0, 12, 19, 13)] E l mL_tell d [.ref p3, .int s2, .int s1, .int s0, .ref q3] G k (fun X G9 => Q (.inr X) G9) (fun y1 G2 k3 =>
  (zar G2 q0 0 ∨ zrd G2 q0 .int) ∧ vp_in (x4 + 1) (zln G2 q0) ∧
  (zar G2 q0 0 ∨ zrd G2 q0 .int) ∧ vp_in (x4 + 2) (zln G2 q0) ∧
  (zar G2 q0 0 ∨ zrd G2 q0 .int) ∧ vp_in (x4 + 3) (zln G2 q0) ∧
  (((ziv G2 q0 (x4 + 3).toNatClampNeg) = 0 →
    zWL E l mL_law_ d b G0 Q k3 811 [some (.ref q0), some (.ref q1), some (.ref q2), some (.ref q3), some (.int x4), some (.int y1), none] [.int 0, .int (ziv G2 q0 (x4 + 2).toNatClampNeg), .int (ziv G2 q0 (x4 + 1).toNatClampNeg), .ref q2] G2) ∧
  (¬ ((ziv G2 q0 (x4 + 3).toNatClampNeg) = 0) →
    zWL E l mL_law_ d b G0 Q k3 811 [some (.ref q0), some (.ref q1), some (.ref q2), some (.ref q3), some (.int x4), some (.int y1), none] [.int 1, .int (ziv G2 q0 (x4 + 2).toNatClampNeg), .int (ziv G2 q0 (x4 + 1).toNatClampNeg), .ref q2] G2)))
theorem wpt_L_law__778 {E : ZE} {l : Launch} {d b : Nat} {G0 : ZG} {Q : ZQ} {k : Nat} {q0 : Nat} {q1 : Nat} {q2 : Nat} {q3 : Nat} {x4 : Int32} {s0 : Int32} {s1 : Int32} {s2 : Int32} {p3 : Nat} {G : ZG} (h : wp_L_law__778 E l d b G0 Q k q0 q1 q2 q3 x4 s0 s1 s2 p3 G) : zWL E l mL_law_ d b G0 Q k 778 [some (.ref q0), some (.ref q1), some (.ref q2), some (.ref q3), some (.int x4), none, none] [.int s0, .int s1, .int s2, .ref p3] G := by
  unfold wp_L_law__778 at h
  refine y_aload_n (pc' := 779) dL_law__778 rfl rfl ?_
  obtain ⟨d1, b1, Qz, hm, hdd, hb, hkx, hk⟩ := h
  refine y_callH (Y := mL_tell) (n := 5) (as := [.ref p3, .int s2, .int s1, .int s0, .ref q3]) (st := []) (pc' := 782) hm dL_law__779 kL_158 hL_tell rfl rfl hdd hb (Nat.le_of_ble_eq_true rfl) (fun r G2 hz => ?_) hkx
  obtain ⟨y1, rfl, h⟩ := hk r G2 hz
  refine y_istore (pc' := 784) dL_law__782 (by decide) rfl ?_
  refine y_aload_n (pc' := 785) dL_law__784 rfl rfl ?_
  refine y_aload_n (pc' := 786) dL_law__785 rfl rfl ?_
  refine y_iload (pc' := 788) dL_law__786 rfl rfl ?_
  refine y_iconst (x := 1) (pc' := 789) dL_law__788 (by decide) rfl ?_
  refine y_iadd (pc' := 790) dL_law__789 rfl rfl ?_
  obtain ⟨h1, h2, h⟩ := h
  refine y_iald (pc' := 791) dL_law__790 rfl h1 h2 ?_
  refine y_aload_n (pc' := 792) dL_law__791 rfl rfl ?_
  refine y_iload (pc' := 794) dL_law__792 rfl rfl ?_
  refine y_iconst (x := 2) (pc' := 795) dL_law__794 (by decide) rfl ?_
  refine y_iadd (pc' := 796) dL_law__795 rfl rfl ?_
  obtain ⟨h1, h2, h⟩ := h
  refine y_iald (pc' := 797) dL_law__796 rfl h1 h2 ?_
  refine y_aload_n (pc' := 798) dL_law__797 rfl rfl ?_
  refine y_iload (pc' := 800) dL_law__798 rfl rfl ?_
  refine y_iconst (x := 3) (pc' := 801) dL_law__800 (by decide) rfl ?_
  refine y_iadd (pc' := 802) dL_law__801 rfl rfl ?_
  obtain ⟨h1, h2, h⟩ := h
  refine y_iald (pc' := 803) dL_law__802 rfl h1 h2 ?_
  refine y_if_eq (pt := 810) (pc' := 806) dL_law__803 (by decide) rfl (fun hc => ?_) (fun hc => ?_)
  · have h := h.1 hc
    refine y_iconst (x := 0) (pc' := 811) dL_law__810 (by decide) rfl ?_
    exact y_dr (ls' := [some (.ref q0), some (.ref q1), some (.ref q2), some (.ref q3), some (.int x4), some (.int y1), none]) ⟨rfl, rfl, rfl, rfl, rfl, rfl, trivial⟩ h
  · have h := h.2 hc
    refine y_iconst (x := 1) (pc' := 807) dL_law__806 (by decide) rfl ?_
    refine y_goto (pc' := 811) dL_law__807 (by decide) ?_
    exact y_dr (ls' := [some (.ref q0), some (.ref q1), some (.ref q2), some (.ref q3), some (.int x4), some (.int y1), none]) ⟨rfl, rfl, rfl, rfl, rfl, rfl, trivial⟩ h
def wp_L_law__811 (E : ZE) (l : Launch) (d b : Nat) (G0 : ZG) (Q : ZQ) (k : Nat) (q0 : Nat) (q1 : Nat) (q2 : Nat) (q3 : Nat) (x4 : Int32) (x5 : Int32) (s0 : Int32) (s1 : Int32) (s2 : Int32) (p3 : Nat) (G : ZG) : Prop :=
  zob G p3 13 ∧
  xcI E l mX12_tell d [.ref p3, .int s2, .int s1, .int s0] G k (fun X G9 => Q (.inr X) G9) (fun y1 G2 k3 =>
  zob G2 q2 13 ∧
  xcI E l mX12_thrown d [.ref q2] G2 k3 (fun X G9 => Q (.inr X) G9) (fun y4 G5 k6 =>
  ((y4 = x5 →
    ((¬ x5 = 0 →
      zWL E l mL_law_ d b G0 Q k6 2293 [some (.ref q0), some (.ref q1), some (.ref q2), some (.ref q3), some (.int x4), none, none] [] G5) ∧
    (¬ (¬ x5 = 0) →
      zar G5 q3 3 ∧ vp_in 0 (zln G5 q3) ∧
      (((lg_cmp ((ziv G5 q3 (0 : Int32).toNatClampNeg)).toInt64 (y1).toInt64) = 0 →
        zWL E l mL_law_ d b G0 Q k6 2293 [some (.ref q0), some (.ref q1), some (.ref q2), some (.ref q3), some (.int x4), none, none] [] G5) ∧
      (¬ ((lg_cmp ((ziv G5 q3 (0 : Int32).toNatClampNeg)).toInt64 (y1).toInt64) = 0) →
        Q (.inl (some (.int 0))) G5))))) ∧
  (¬ (y4 = x5) →
    Q (.inl (some (.int 0))) G5))))
theorem wpt_L_law__811 {E : ZE} {l : Launch} {d b : Nat} {G0 : ZG} {Q : ZQ} {k : Nat} {q0 : Nat} {q1 : Nat} {q2 : Nat} {q3 : Nat} {x4 : Int32} {x5 : Int32} {s0 : Int32} {s1 : Int32} {s2 : Int32} {p3 : Nat} {G : ZG} (h : wp_L_law__811 E l d b G0 Q k q0 q1 q2 q3 x4 x5 s0 s1 s2 p3 G) : zWL E l mL_law_ d b G0 Q k 811 [some (.ref q0), some (.ref q1), some (.ref q2), some (.ref q3), some (.int x4), some (.int x5), none] [.int s0, .int s1, .int s2, .ref p3] G := by
  unfold wp_L_law__811 at h
  obtain ⟨h1, h⟩ := h
  obtain ⟨d1, b1, Qz, hm, hdd, hb, hkx, hk⟩ := h
  refine y_callV (Y := mX12_tell) (n := 3) (as := [.int s2, .int s1, .int s0]) (st := []) (pc' := 814) (ci := 13) (q := p3) hm dL_law__811 kL_161 vX12_tell rfl rfl (by decide) rfl h1 hdd hb (Nat.le_of_ble_eq_true rfl) (fun r G2 hz => ?_) hkx
  obtain ⟨y1, rfl, h⟩ := hk r G2 hz
  refine y_istore (pc' := 816) dL_law__814 (by decide) rfl ?_
  refine y_aload_n (pc' := 817) dL_law__816 rfl rfl ?_
  obtain ⟨h1, h⟩ := h
  obtain ⟨d1, b1, Qz, hm, hdd, hb, hkx, hk⟩ := h
  refine y_callV (Y := mX12_thrown) (n := 0) (as := []) (st := []) (pc' := 820) (ci := 13) (q := q2) hm dL_law__817 kL_133 vX12_thrown rfl rfl (by decide) rfl h1 hdd hb (Nat.le_of_ble_eq_true rfl) (fun r G5 hz => ?_) hkx
  obtain ⟨y4, rfl, h⟩ := hk r G5 hz
  refine y_iload (pc' := 822) dL_law__820 rfl rfl ?_
  refine y_icmp_eq (pt := 827) (pc' := 825) dL_law__822 (by decide) rfl (fun hc => ?_) (fun hc => ?_)
  · have h := h.1 hc
    refine y_iload (pc' := 829) dL_law__827 rfl rfl ?_
    refine y_if_ne (pt := 844) (pc' := 832) dL_law__829 (by decide) rfl (fun hc => ?_) (fun hc => ?_)
    · have h := h.1 hc
      refine y_goto (pc' := 2293) dL_law__844 (by decide) ?_
      exact y_dr (ls' := [some (.ref q0), some (.ref q1), some (.ref q2), some (.ref q3), some (.int x4), none, none]) ⟨rfl, rfl, rfl, rfl, rfl, trivial⟩ h
    · have h := h.2 hc
      refine y_aload_n (pc' := 833) dL_law__832 rfl rfl ?_
      refine y_iconst (x := 0) (pc' := 834) dL_law__833 (by decide) rfl ?_
      obtain ⟨h1, h2, h⟩ := h
      refine y_lald (pc' := 835) dL_law__834 rfl h1 h2 ?_
      refine y_iload (pc' := 837) dL_law__835 rfl rfl ?_
      refine y_i2l (pc' := 838) dL_law__837 rfl ?_
      refine y_lcmp (pc' := 839) dL_law__838 rfl rfl ?_
      refine y_if_eq (pt := 844) (pc' := 842) dL_law__839 (by decide) rfl (fun hc => ?_) (fun hc => ?_)
      · have h := h.1 hc
        refine y_goto (pc' := 2293) dL_law__844 (by decide) ?_
        exact y_dr (ls' := [some (.ref q0), some (.ref q1), some (.ref q2), some (.ref q3), some (.int x4), none, none]) ⟨rfl, rfl, rfl, rfl, rfl, trivial⟩ h
      · have h := h.2 hc
        refine y_iconst (x := 0) (pc' := 843) dL_law__842 (by decide) rfl ?_
        exact y_zret (ty := .boolean) dL_law__843 rfl (by decide) h
  · have h := h.2 hc
    refine y_iconst (x := 0) (pc' := 826) dL_law__825 (by decide) rfl ?_
    exact y_zret (ty := .boolean) dL_law__826 rfl (by decide) h
def wp_L_law__847 (E : ZE) (l : Launch) (d b : Nat) (G0 : ZG) (Q : ZQ) (k : Nat) (q0 : Nat) (q1 : Nat) (q2 : Nat) (q3 : Nat) (x4 : Int32) (G : ZG) : Prop :=
  (zar G q0 0 ∨ zrd G q0 .int) ∧ vp_in (x4 + 1) (zln G q0) ∧
  (zar G q0 0 ∨ zrd G q0 .int) ∧ vp_in (x4 + 2) (zln G q0) ∧
  (zar G q0 0 ∨ zrd G q0 .int) ∧ vp_in (x4 + 3) (zln G q0) ∧
  (zar G q0 0 ∨ zrd G q0 .int) ∧ vp_in (x4 + 4) (zln G q0) ∧
  (((ziv G q0 (x4 + 4).toNatClampNeg) = 0 →
    zWL E l mL_law_ d b G0 Q k 880 [some (.ref q0), some (.ref q1), some (.ref q2), some (.ref q3), some (.int x4), none, none] [.int 0, .int (ziv G q0 (x4 + 3).toNatClampNeg), .int (ziv G q0 (x4 + 2).toNatClampNeg), .int (ziv G q0 (x4 + 1).toNatClampNeg), .ref q1] G) ∧
  (¬ ((ziv G q0 (x4 + 4).toNatClampNeg) = 0) →
    zWL E l mL_law_ d b G0 Q k 880 [some (.ref q0), some (.ref q1), some (.ref q2), some (.ref q3), some (.int x4), none, none] [.int 1, .int (ziv G q0 (x4 + 3).toNatClampNeg), .int (ziv G q0 (x4 + 2).toNatClampNeg), .int (ziv G q0 (x4 + 1).toNatClampNeg), .ref q1] G))
theorem wpt_L_law__847 {E : ZE} {l : Launch} {d b : Nat} {G0 : ZG} {Q : ZQ} {k : Nat} {q0 : Nat} {q1 : Nat} {q2 : Nat} {q3 : Nat} {x4 : Int32} {G : ZG} (h : wp_L_law__847 E l d b G0 Q k q0 q1 q2 q3 x4 G) : zWL E l mL_law_ d b G0 Q k 847 [some (.ref q0), some (.ref q1), some (.ref q2), some (.ref q3), some (.int x4), none, none] [] G := by
  unfold wp_L_law__847 at h
  refine y_aload_n (pc' := 848) dL_law__847 rfl rfl ?_
  refine y_aload_n (pc' := 849) dL_law__848 rfl rfl ?_
  refine y_iload (pc' := 851) dL_law__849 rfl rfl ?_
  refine y_iconst (x := 1) (pc' := 852) dL_law__851 (by decide) rfl ?_
  refine y_iadd (pc' := 853) dL_law__852 rfl rfl ?_
  obtain ⟨h1, h2, h⟩ := h
  refine y_iald (pc' := 854) dL_law__853 rfl h1 h2 ?_
  refine y_aload_n (pc' := 855) dL_law__854 rfl rfl ?_
  refine y_iload (pc' := 857) dL_law__855 rfl rfl ?_
  refine y_iconst (x := 2) (pc' := 858) dL_law__857 (by decide) rfl ?_
  refine y_iadd (pc' := 859) dL_law__858 rfl rfl ?_
  obtain ⟨h1, h2, h⟩ := h
  refine y_iald (pc' := 860) dL_law__859 rfl h1 h2 ?_
  refine y_aload_n (pc' := 861) dL_law__860 rfl rfl ?_
  refine y_iload (pc' := 863) dL_law__861 rfl rfl ?_
  refine y_iconst (x := 3) (pc' := 864) dL_law__863 (by decide) rfl ?_
  refine y_iadd (pc' := 865) dL_law__864 rfl rfl ?_
  obtain ⟨h1, h2, h⟩ := h
  refine y_iald (pc' := 866) dL_law__865 rfl h1 h2 ?_
  refine y_aload_n (pc' := 867) dL_law__866 rfl rfl ?_
  refine y_iload (pc' := 869) dL_law__867 rfl rfl ?_
  refine y_iconst (x := 4) (pc' := 870) dL_law__869 (by decide) rfl ?_
  refine y_iadd (pc' := 871) dL_law__870 rfl rfl ?_
  obtain ⟨h1, h2, h⟩ := h
  refine y_iald (pc' := 872) dL_law__871 rfl h1 h2 ?_
  refine y_if_eq (pt := 879) (pc' := 875) dL_law__872 (by decide) rfl (fun hc => ?_) (fun hc => ?_)
  · have h := h.1 hc
    refine y_iconst (x := 0) (pc' := 880) dL_law__879 (by decide) rfl ?_
    exact y_dr (ls' := [some (.ref q0), some (.ref q1), some (.ref q2), some (.ref q3), some (.int x4), none, none]) ⟨rfl, rfl, rfl, rfl, rfl, trivial⟩ h
  · have h := h.2 hc
    refine y_iconst (x := 1) (pc' := 876) dL_law__875 (by decide) rfl ?_
    refine y_goto (pc' := 880) dL_law__876 (by decide) ?_
    exact y_dr (ls' := [some (.ref q0), some (.ref q1), some (.ref q2), some (.ref q3), some (.int x4), none, none]) ⟨rfl, rfl, rfl, rfl, rfl, trivial⟩ h
def wp_L_law__880 (E : ZE) (l : Launch) (d b : Nat) (G0 : ZG) (Q : ZQ) (k : Nat) (q0 : Nat) (q1 : Nat) (q2 : Nat) (q3 : Nat) (x4 : Int32) (s0 : Int32) (s1 : Int32) (s2 : Int32) (s3 : Int32) (p4 : Nat) (G : ZG) : Prop :=
  (zar G q0 0 ∨ zrd G q0 .int) ∧ vp_in (x4 + 5) (zln G q0) ∧
  xhI [(0, 16, 19, 24), (0, 16, 23, 13), (0, 16, 27, 44)] E l mL_judge d [.ref p4, .int s3, .int s2, .int s1, .int s0, .int (ziv G q0 (x4 + 5).toNatClampNeg), .ref q3] G k (fun X G9 => Q (.inr X) G9) (fun y1 G2 k3 =>
  (zar G2 q0 0 ∨ zrd G2 q0 .int) ∧ vp_in (x4 + 1) (zln G2 q0) ∧
  (zar G2 q0 0 ∨ zrd G2 q0 .int) ∧ vp_in (x4 + 2) (zln G2 q0) ∧
  (zar G2 q0 0 ∨ zrd G2 q0 .int) ∧ vp_in (x4 + 3) (zln G2 q0) ∧
  (zar G2 q0 0 ∨ zrd G2 q0 .int) ∧ vp_in (x4 + 4) (zln G2 q0) ∧
  (((ziv G2 q0 (x4 + 4).toNatClampNeg) = 0 →
    zWL E l mL_law_ d b G0 Q k3 925 [some (.ref q0), some (.ref q1), some (.ref q2), some (.ref q3), some (.int x4), some (.int y1), none] [.int 0, .int (ziv G2 q0 (x4 + 3).toNatClampNeg), .int (ziv G2 q0 (x4 + 2).toNatClampNeg), .int (ziv G2 q0 (x4 + 1).toNatClampNeg), .ref q2] G2) ∧
  (¬ ((ziv G2 q0 (x4 + 4).toNatClampNeg) = 0) →
    zWL E l mL_law_ d b G0 Q k3 925 [some (.ref q0), some (.ref q1), some (.ref q2), some (.ref q3), some (.int x4), some (.int y1), none] [.int 1, .int (ziv G2 q0 (x4 + 3).toNatClampNeg), .int (ziv G2 q0 (x4 + 2).toNatClampNeg), .int (ziv G2 q0 (x4 + 1).toNatClampNeg), .ref q2] G2)))
theorem wpt_L_law__880 {E : ZE} {l : Launch} {d b : Nat} {G0 : ZG} {Q : ZQ} {k : Nat} {q0 : Nat} {q1 : Nat} {q2 : Nat} {q3 : Nat} {x4 : Int32} {s0 : Int32} {s1 : Int32} {s2 : Int32} {s3 : Int32} {p4 : Nat} {G : ZG} (h : wp_L_law__880 E l d b G0 Q k q0 q1 q2 q3 x4 s0 s1 s2 s3 p4 G) : zWL E l mL_law_ d b G0 Q k 880 [some (.ref q0), some (.ref q1), some (.ref q2), some (.ref q3), some (.int x4), none, none] [.int s0, .int s1, .int s2, .int s3, .ref p4] G := by
  unfold wp_L_law__880 at h
  refine y_aload_n (pc' := 881) dL_law__880 rfl rfl ?_
  refine y_iload (pc' := 883) dL_law__881 rfl rfl ?_
  refine y_iconst (x := 5) (pc' := 884) dL_law__883 (by decide) rfl ?_
  refine y_iadd (pc' := 885) dL_law__884 rfl rfl ?_
  obtain ⟨h1, h2, h⟩ := h
  refine y_iald (pc' := 886) dL_law__885 rfl h1 h2 ?_
  refine y_aload_n (pc' := 887) dL_law__886 rfl rfl ?_
  obtain ⟨d1, b1, Qz, hm, hdd, hb, hkx, hk⟩ := h
  refine y_callH (Y := mL_judge) (n := 7) (as := [.ref p4, .int s3, .int s2, .int s1, .int s0, .int (ziv G q0 (x4 + 5).toNatClampNeg), .ref q3]) (st := []) (pc' := 890) hm dL_law__887 kL_162 hL_judge rfl rfl hdd hb (Nat.le_of_ble_eq_true rfl) (fun r G2 hz => ?_) hkx
  obtain ⟨y1, rfl, h⟩ := hk r G2 hz
  refine y_istore (pc' := 892) dL_law__890 (by decide) rfl ?_
  refine y_aload_n (pc' := 893) dL_law__892 rfl rfl ?_
  refine y_aload_n (pc' := 894) dL_law__893 rfl rfl ?_
  refine y_iload (pc' := 896) dL_law__894 rfl rfl ?_
  refine y_iconst (x := 1) (pc' := 897) dL_law__896 (by decide) rfl ?_
  refine y_iadd (pc' := 898) dL_law__897 rfl rfl ?_
  obtain ⟨h1, h2, h⟩ := h
  refine y_iald (pc' := 899) dL_law__898 rfl h1 h2 ?_
  refine y_aload_n (pc' := 900) dL_law__899 rfl rfl ?_
  refine y_iload (pc' := 902) dL_law__900 rfl rfl ?_
  refine y_iconst (x := 2) (pc' := 903) dL_law__902 (by decide) rfl ?_
  refine y_iadd (pc' := 904) dL_law__903 rfl rfl ?_
  obtain ⟨h1, h2, h⟩ := h
  refine y_iald (pc' := 905) dL_law__904 rfl h1 h2 ?_
  refine y_aload_n (pc' := 906) dL_law__905 rfl rfl ?_
  refine y_iload (pc' := 908) dL_law__906 rfl rfl ?_
  refine y_iconst (x := 3) (pc' := 909) dL_law__908 (by decide) rfl ?_
  refine y_iadd (pc' := 910) dL_law__909 rfl rfl ?_
  obtain ⟨h1, h2, h⟩ := h
  refine y_iald (pc' := 911) dL_law__910 rfl h1 h2 ?_
  refine y_aload_n (pc' := 912) dL_law__911 rfl rfl ?_
  refine y_iload (pc' := 914) dL_law__912 rfl rfl ?_
  refine y_iconst (x := 4) (pc' := 915) dL_law__914 (by decide) rfl ?_
  refine y_iadd (pc' := 916) dL_law__915 rfl rfl ?_
  obtain ⟨h1, h2, h⟩ := h
  refine y_iald (pc' := 917) dL_law__916 rfl h1 h2 ?_
  refine y_if_eq (pt := 924) (pc' := 920) dL_law__917 (by decide) rfl (fun hc => ?_) (fun hc => ?_)
  · have h := h.1 hc
    refine y_iconst (x := 0) (pc' := 925) dL_law__924 (by decide) rfl ?_
    exact y_dr (ls' := [some (.ref q0), some (.ref q1), some (.ref q2), some (.ref q3), some (.int x4), some (.int y1), none]) ⟨rfl, rfl, rfl, rfl, rfl, rfl, trivial⟩ h
  · have h := h.2 hc
    refine y_iconst (x := 1) (pc' := 921) dL_law__920 (by decide) rfl ?_
    refine y_goto (pc' := 925) dL_law__921 (by decide) ?_
    exact y_dr (ls' := [some (.ref q0), some (.ref q1), some (.ref q2), some (.ref q3), some (.int x4), some (.int y1), none]) ⟨rfl, rfl, rfl, rfl, rfl, rfl, trivial⟩ h
def wp_L_law__925 (E : ZE) (l : Launch) (d b : Nat) (G0 : ZG) (Q : ZQ) (k : Nat) (q0 : Nat) (q1 : Nat) (q2 : Nat) (q3 : Nat) (x4 : Int32) (x5 : Int32) (s0 : Int32) (s1 : Int32) (s2 : Int32) (s3 : Int32) (p4 : Nat) (G : ZG) : Prop :=
  (zar G q0 0 ∨ zrd G q0 .int) ∧ vp_in (x4 + 5) (zln G q0) ∧
  zob G p4 13 ∧
  xcI E l mX12_judge d [.ref p4, .int s3, .int s2, .int s1, .int s0, .int (ziv G q0 (x4 + 5).toNatClampNeg)] G k (fun X G9 => Q (.inr X) G9) (fun y1 G2 k3 =>
  zob G2 q2 13 ∧
  xcI E l mX12_thrown d [.ref q2] G2 k3 (fun X G9 => Q (.inr X) G9) (fun y4 G5 k6 =>
  ((y4 = x5 →
    ((¬ x5 = 0 →
      zWL E l mL_law_ d b G0 Q k6 2293 [some (.ref q0), some (.ref q1), some (.ref q2), some (.ref q3), some (.int x4), none, none] [] G5) ∧
    (¬ (¬ x5 = 0) →
      zar G5 q3 3 ∧ vp_in 0 (zln G5 q3) ∧
      (((lg_cmp ((ziv G5 q3 (0 : Int32).toNatClampNeg)).toInt64 (y1).toInt64) = 0 →
        zWL E l mL_law_ d b G0 Q k6 2293 [some (.ref q0), some (.ref q1), some (.ref q2), some (.ref q3), some (.int x4), none, none] [] G5) ∧
      (¬ ((lg_cmp ((ziv G5 q3 (0 : Int32).toNatClampNeg)).toInt64 (y1).toInt64) = 0) →
        Q (.inl (some (.int 0))) G5))))) ∧
  (¬ (y4 = x5) →
    Q (.inl (some (.int 0))) G5))))
theorem wpt_L_law__925 {E : ZE} {l : Launch} {d b : Nat} {G0 : ZG} {Q : ZQ} {k : Nat} {q0 : Nat} {q1 : Nat} {q2 : Nat} {q3 : Nat} {x4 : Int32} {x5 : Int32} {s0 : Int32} {s1 : Int32} {s2 : Int32} {s3 : Int32} {p4 : Nat} {G : ZG} (h : wp_L_law__925 E l d b G0 Q k q0 q1 q2 q3 x4 x5 s0 s1 s2 s3 p4 G) : zWL E l mL_law_ d b G0 Q k 925 [some (.ref q0), some (.ref q1), some (.ref q2), some (.ref q3), some (.int x4), some (.int x5), none] [.int s0, .int s1, .int s2, .int s3, .ref p4] G := by
  unfold wp_L_law__925 at h
  refine y_aload_n (pc' := 926) dL_law__925 rfl rfl ?_
  refine y_iload (pc' := 928) dL_law__926 rfl rfl ?_
  refine y_iconst (x := 5) (pc' := 929) dL_law__928 (by decide) rfl ?_
  refine y_iadd (pc' := 930) dL_law__929 rfl rfl ?_
  obtain ⟨h1, h2, h⟩ := h
  refine y_iald (pc' := 931) dL_law__930 rfl h1 h2 ?_
  obtain ⟨h1, h⟩ := h
  obtain ⟨d1, b1, Qz, hm, hdd, hb, hkx, hk⟩ := h
  refine y_callV (Y := mX12_judge) (n := 5) (as := [.int s3, .int s2, .int s1, .int s0, .int (ziv G q0 (x4 + 5).toNatClampNeg)]) (st := []) (pc' := 934) (ci := 13) (q := p4) hm dL_law__931 kL_165 vX12_judge rfl rfl (by decide) rfl h1 hdd hb (Nat.le_of_ble_eq_true rfl) (fun r G2 hz => ?_) hkx
  obtain ⟨y1, rfl, h⟩ := hk r G2 hz
  refine y_istore (pc' := 936) dL_law__934 (by decide) rfl ?_
  refine y_aload_n (pc' := 937) dL_law__936 rfl rfl ?_
  obtain ⟨h1, h⟩ := h
  obtain ⟨d1, b1, Qz, hm, hdd, hb, hkx, hk⟩ := h
  refine y_callV (Y := mX12_thrown) (n := 0) (as := []) (st := []) (pc' := 940) (ci := 13) (q := q2) hm dL_law__937 kL_133 vX12_thrown rfl rfl (by decide) rfl h1 hdd hb (Nat.le_of_ble_eq_true rfl) (fun r G5 hz => ?_) hkx
  obtain ⟨y4, rfl, h⟩ := hk r G5 hz
  refine y_iload (pc' := 942) dL_law__940 rfl rfl ?_
  refine y_icmp_eq (pt := 947) (pc' := 945) dL_law__942 (by decide) rfl (fun hc => ?_) (fun hc => ?_)
  · have h := h.1 hc
    refine y_iload (pc' := 949) dL_law__947 rfl rfl ?_
    refine y_if_ne (pt := 964) (pc' := 952) dL_law__949 (by decide) rfl (fun hc => ?_) (fun hc => ?_)
    · have h := h.1 hc
      refine y_goto (pc' := 2293) dL_law__964 (by decide) ?_
      exact y_dr (ls' := [some (.ref q0), some (.ref q1), some (.ref q2), some (.ref q3), some (.int x4), none, none]) ⟨rfl, rfl, rfl, rfl, rfl, trivial⟩ h
    · have h := h.2 hc
      refine y_aload_n (pc' := 953) dL_law__952 rfl rfl ?_
      refine y_iconst (x := 0) (pc' := 954) dL_law__953 (by decide) rfl ?_
      obtain ⟨h1, h2, h⟩ := h
      refine y_lald (pc' := 955) dL_law__954 rfl h1 h2 ?_
      refine y_iload (pc' := 957) dL_law__955 rfl rfl ?_
      refine y_i2l (pc' := 958) dL_law__957 rfl ?_
      refine y_lcmp (pc' := 959) dL_law__958 rfl rfl ?_
      refine y_if_eq (pt := 964) (pc' := 962) dL_law__959 (by decide) rfl (fun hc => ?_) (fun hc => ?_)
      · have h := h.1 hc
        refine y_goto (pc' := 2293) dL_law__964 (by decide) ?_
        exact y_dr (ls' := [some (.ref q0), some (.ref q1), some (.ref q2), some (.ref q3), some (.int x4), none, none]) ⟨rfl, rfl, rfl, rfl, rfl, trivial⟩ h
      · have h := h.2 hc
        refine y_iconst (x := 0) (pc' := 963) dL_law__962 (by decide) rfl ?_
        exact y_zret (ty := .boolean) dL_law__963 rfl (by decide) h
  · have h := h.2 hc
    refine y_iconst (x := 0) (pc' := 946) dL_law__945 (by decide) rfl ?_
    exact y_zret (ty := .boolean) dL_law__946 rfl (by decide) h
def wp_L_law__967 (E : ZE) (l : Launch) (d b : Nat) (G0 : ZG) (Q : ZQ) (k : Nat) (q0 : Nat) (q1 : Nat) (q2 : Nat) (q3 : Nat) (x4 : Int32) (G : ZG) : Prop :=
  (zar G q0 0 ∨ zrd G q0 .int) ∧ vp_in (x4 + 1) (zln G q0) ∧
  (zar G q0 0 ∨ zrd G q0 .int) ∧ vp_in (x4 + 2) (zln G q0) ∧
  (zar G q0 0 ∨ zrd G q0 .int) ∧ vp_in (x4 + 3) (zln G q0) ∧
  (zar G q0 0 ∨ zrd G q0 .int) ∧ vp_in (x4 + 4) (zln G q0) ∧
  (zar G q0 0 ∨ zrd G q0 .int) ∧ vp_in (x4 + 5) (zln G q0) ∧
  (((ziv G q0 (x4 + 5).toNatClampNeg) = 0 →
    zWL E l mL_law_ d b G0 Q k 1006 [some (.ref q0), some (.ref q1), some (.ref q2), some (.ref q3), some (.int x4), none, none] [.int 0, .int (ziv G q0 (x4 + 4).toNatClampNeg), .int (ziv G q0 (x4 + 3).toNatClampNeg), .int (ziv G q0 (x4 + 2).toNatClampNeg), .int (ziv G q0 (x4 + 1).toNatClampNeg), .ref q1] G) ∧
  (¬ ((ziv G q0 (x4 + 5).toNatClampNeg) = 0) →
    zWL E l mL_law_ d b G0 Q k 1006 [some (.ref q0), some (.ref q1), some (.ref q2), some (.ref q3), some (.int x4), none, none] [.int 1, .int (ziv G q0 (x4 + 4).toNatClampNeg), .int (ziv G q0 (x4 + 3).toNatClampNeg), .int (ziv G q0 (x4 + 2).toNatClampNeg), .int (ziv G q0 (x4 + 1).toNatClampNeg), .ref q1] G))
theorem wpt_L_law__967 {E : ZE} {l : Launch} {d b : Nat} {G0 : ZG} {Q : ZQ} {k : Nat} {q0 : Nat} {q1 : Nat} {q2 : Nat} {q3 : Nat} {x4 : Int32} {G : ZG} (h : wp_L_law__967 E l d b G0 Q k q0 q1 q2 q3 x4 G) : zWL E l mL_law_ d b G0 Q k 967 [some (.ref q0), some (.ref q1), some (.ref q2), some (.ref q3), some (.int x4), none, none] [] G := by
  unfold wp_L_law__967 at h
  refine y_aload_n (pc' := 968) dL_law__967 rfl rfl ?_
  refine y_aload_n (pc' := 969) dL_law__968 rfl rfl ?_
  refine y_iload (pc' := 971) dL_law__969 rfl rfl ?_
  refine y_iconst (x := 1) (pc' := 972) dL_law__971 (by decide) rfl ?_
  refine y_iadd (pc' := 973) dL_law__972 rfl rfl ?_
  obtain ⟨h1, h2, h⟩ := h
  refine y_iald (pc' := 974) dL_law__973 rfl h1 h2 ?_
  refine y_aload_n (pc' := 975) dL_law__974 rfl rfl ?_
  refine y_iload (pc' := 977) dL_law__975 rfl rfl ?_
  refine y_iconst (x := 2) (pc' := 978) dL_law__977 (by decide) rfl ?_
  refine y_iadd (pc' := 979) dL_law__978 rfl rfl ?_
  obtain ⟨h1, h2, h⟩ := h
  refine y_iald (pc' := 980) dL_law__979 rfl h1 h2 ?_
  refine y_aload_n (pc' := 981) dL_law__980 rfl rfl ?_
  refine y_iload (pc' := 983) dL_law__981 rfl rfl ?_
  refine y_iconst (x := 3) (pc' := 984) dL_law__983 (by decide) rfl ?_
  refine y_iadd (pc' := 985) dL_law__984 rfl rfl ?_
  obtain ⟨h1, h2, h⟩ := h
  refine y_iald (pc' := 986) dL_law__985 rfl h1 h2 ?_
  refine y_aload_n (pc' := 987) dL_law__986 rfl rfl ?_
  refine y_iload (pc' := 989) dL_law__987 rfl rfl ?_
  refine y_iconst (x := 4) (pc' := 990) dL_law__989 (by decide) rfl ?_
  refine y_iadd (pc' := 991) dL_law__990 rfl rfl ?_
  obtain ⟨h1, h2, h⟩ := h
  refine y_iald (pc' := 992) dL_law__991 rfl h1 h2 ?_
  refine y_aload_n (pc' := 993) dL_law__992 rfl rfl ?_
  refine y_iload (pc' := 995) dL_law__993 rfl rfl ?_
  refine y_iconst (x := 5) (pc' := 996) dL_law__995 (by decide) rfl ?_
  refine y_iadd (pc' := 997) dL_law__996 rfl rfl ?_
  obtain ⟨h1, h2, h⟩ := h
  refine y_iald (pc' := 998) dL_law__997 rfl h1 h2 ?_
  refine y_if_eq (pt := 1005) (pc' := 1001) dL_law__998 (by decide) rfl (fun hc => ?_) (fun hc => ?_)
  · have h := h.1 hc
    refine y_iconst (x := 0) (pc' := 1006) dL_law__1005 (by decide) rfl ?_
    exact y_dr (ls' := [some (.ref q0), some (.ref q1), some (.ref q2), some (.ref q3), some (.int x4), none, none]) ⟨rfl, rfl, rfl, rfl, rfl, trivial⟩ h
  · have h := h.2 hc
    refine y_iconst (x := 1) (pc' := 1002) dL_law__1001 (by decide) rfl ?_
    refine y_goto (pc' := 1006) dL_law__1002 (by decide) ?_
    exact y_dr (ls' := [some (.ref q0), some (.ref q1), some (.ref q2), some (.ref q3), some (.int x4), none, none]) ⟨rfl, rfl, rfl, rfl, rfl, trivial⟩ h
def wp_L_law__1006 (E : ZE) (l : Launch) (d b : Nat) (G0 : ZG) (Q : ZQ) (k : Nat) (q0 : Nat) (q1 : Nat) (q2 : Nat) (q3 : Nat) (x4 : Int32) (s0 : Int32) (s1 : Int32) (s2 : Int32) (s3 : Int32) (s4 : Int32) (p5 : Nat) (G : ZG) : Prop :=
  xhI [(0, 16, 19, 24), (0, 16, 23, 13), (0, 16, 27, 15)] E l mL_ask d [.ref p5, .int s4, .int s3, .int s2, .int s1, .int s0, .ref q3] G k (fun X G9 => Q (.inr X) G9) (fun y1 G2 k3 =>
  (zar G2 q0 0 ∨ zrd G2 q0 .int) ∧ vp_in (x4 + 1) (zln G2 q0) ∧
  (zar G2 q0 0 ∨ zrd G2 q0 .int) ∧ vp_in (x4 + 2) (zln G2 q0) ∧
  (zar G2 q0 0 ∨ zrd G2 q0 .int) ∧ vp_in (x4 + 3) (zln G2 q0) ∧
  (zar G2 q0 0 ∨ zrd G2 q0 .int) ∧ vp_in (x4 + 4) (zln G2 q0) ∧
  (zar G2 q0 0 ∨ zrd G2 q0 .int) ∧ vp_in (x4 + 5) (zln G2 q0) ∧
  (((ziv G2 q0 (x4 + 5).toNatClampNeg) = 0 →
    zWL E l mL_law_ d b G0 Q k3 1051 [some (.ref q0), some (.ref q1), some (.ref q2), some (.ref q3), some (.int x4), some (.int y1), none] [.int 0, .int (ziv G2 q0 (x4 + 4).toNatClampNeg), .int (ziv G2 q0 (x4 + 3).toNatClampNeg), .int (ziv G2 q0 (x4 + 2).toNatClampNeg), .int (ziv G2 q0 (x4 + 1).toNatClampNeg), .ref q2] G2) ∧
  (¬ ((ziv G2 q0 (x4 + 5).toNatClampNeg) = 0) →
    zWL E l mL_law_ d b G0 Q k3 1051 [some (.ref q0), some (.ref q1), some (.ref q2), some (.ref q3), some (.int x4), some (.int y1), none] [.int 1, .int (ziv G2 q0 (x4 + 4).toNatClampNeg), .int (ziv G2 q0 (x4 + 3).toNatClampNeg), .int (ziv G2 q0 (x4 + 2).toNatClampNeg), .int (ziv G2 q0 (x4 + 1).toNatClampNeg), .ref q2] G2)))
theorem wpt_L_law__1006 {E : ZE} {l : Launch} {d b : Nat} {G0 : ZG} {Q : ZQ} {k : Nat} {q0 : Nat} {q1 : Nat} {q2 : Nat} {q3 : Nat} {x4 : Int32} {s0 : Int32} {s1 : Int32} {s2 : Int32} {s3 : Int32} {s4 : Int32} {p5 : Nat} {G : ZG} (h : wp_L_law__1006 E l d b G0 Q k q0 q1 q2 q3 x4 s0 s1 s2 s3 s4 p5 G) : zWL E l mL_law_ d b G0 Q k 1006 [some (.ref q0), some (.ref q1), some (.ref q2), some (.ref q3), some (.int x4), none, none] [.int s0, .int s1, .int s2, .int s3, .int s4, .ref p5] G := by
  unfold wp_L_law__1006 at h
  refine y_aload_n (pc' := 1007) dL_law__1006 rfl rfl ?_
  obtain ⟨d1, b1, Qz, hm, hdd, hb, hkx, hk⟩ := h
  refine y_callH (Y := mL_ask) (n := 7) (as := [.ref p5, .int s4, .int s3, .int s2, .int s1, .int s0, .ref q3]) (st := []) (pc' := 1010) hm dL_law__1007 kL_166 hL_ask rfl rfl hdd hb (Nat.le_of_ble_eq_true rfl) (fun r G2 hz => ?_) hkx
  obtain ⟨y1, rfl, h⟩ := hk r G2 hz
  refine y_istore (pc' := 1012) dL_law__1010 (by decide) rfl ?_
  refine y_aload_n (pc' := 1013) dL_law__1012 rfl rfl ?_
  refine y_aload_n (pc' := 1014) dL_law__1013 rfl rfl ?_
  refine y_iload (pc' := 1016) dL_law__1014 rfl rfl ?_
  refine y_iconst (x := 1) (pc' := 1017) dL_law__1016 (by decide) rfl ?_
  refine y_iadd (pc' := 1018) dL_law__1017 rfl rfl ?_
  obtain ⟨h1, h2, h⟩ := h
  refine y_iald (pc' := 1019) dL_law__1018 rfl h1 h2 ?_
  refine y_aload_n (pc' := 1020) dL_law__1019 rfl rfl ?_
  refine y_iload (pc' := 1022) dL_law__1020 rfl rfl ?_
  refine y_iconst (x := 2) (pc' := 1023) dL_law__1022 (by decide) rfl ?_
  refine y_iadd (pc' := 1024) dL_law__1023 rfl rfl ?_
  obtain ⟨h1, h2, h⟩ := h
  refine y_iald (pc' := 1025) dL_law__1024 rfl h1 h2 ?_
  refine y_aload_n (pc' := 1026) dL_law__1025 rfl rfl ?_
  refine y_iload (pc' := 1028) dL_law__1026 rfl rfl ?_
  refine y_iconst (x := 3) (pc' := 1029) dL_law__1028 (by decide) rfl ?_
  refine y_iadd (pc' := 1030) dL_law__1029 rfl rfl ?_
  obtain ⟨h1, h2, h⟩ := h
  refine y_iald (pc' := 1031) dL_law__1030 rfl h1 h2 ?_
  refine y_aload_n (pc' := 1032) dL_law__1031 rfl rfl ?_
  refine y_iload (pc' := 1034) dL_law__1032 rfl rfl ?_
  refine y_iconst (x := 4) (pc' := 1035) dL_law__1034 (by decide) rfl ?_
  refine y_iadd (pc' := 1036) dL_law__1035 rfl rfl ?_
  obtain ⟨h1, h2, h⟩ := h
  refine y_iald (pc' := 1037) dL_law__1036 rfl h1 h2 ?_
  refine y_aload_n (pc' := 1038) dL_law__1037 rfl rfl ?_
  refine y_iload (pc' := 1040) dL_law__1038 rfl rfl ?_
  refine y_iconst (x := 5) (pc' := 1041) dL_law__1040 (by decide) rfl ?_
  refine y_iadd (pc' := 1042) dL_law__1041 rfl rfl ?_
  obtain ⟨h1, h2, h⟩ := h
  refine y_iald (pc' := 1043) dL_law__1042 rfl h1 h2 ?_
  refine y_if_eq (pt := 1050) (pc' := 1046) dL_law__1043 (by decide) rfl (fun hc => ?_) (fun hc => ?_)
  · have h := h.1 hc
    refine y_iconst (x := 0) (pc' := 1051) dL_law__1050 (by decide) rfl ?_
    exact y_dr (ls' := [some (.ref q0), some (.ref q1), some (.ref q2), some (.ref q3), some (.int x4), some (.int y1), none]) ⟨rfl, rfl, rfl, rfl, rfl, rfl, trivial⟩ h
  · have h := h.2 hc
    refine y_iconst (x := 1) (pc' := 1047) dL_law__1046 (by decide) rfl ?_
    refine y_goto (pc' := 1051) dL_law__1047 (by decide) ?_
    exact y_dr (ls' := [some (.ref q0), some (.ref q1), some (.ref q2), some (.ref q3), some (.int x4), some (.int y1), none]) ⟨rfl, rfl, rfl, rfl, rfl, rfl, trivial⟩ h
def wp_L_law__1051 (E : ZE) (l : Launch) (d b : Nat) (G0 : ZG) (Q : ZQ) (k : Nat) (q0 : Nat) (q1 : Nat) (q2 : Nat) (q3 : Nat) (x4 : Int32) (x5 : Int32) (s0 : Int32) (s1 : Int32) (s2 : Int32) (s3 : Int32) (s4 : Int32) (p5 : Nat) (G : ZG) : Prop :=
  zob G p5 13 ∧
  xcI E l mX12_ask d [.ref p5, .int s4, .int s3, .int s2, .int s1, .int s0] G k (fun X G9 => Q (.inr X) G9) (fun y1 G2 k3 =>
  zob G2 q2 13 ∧
  xcI E l mX12_thrown d [.ref q2] G2 k3 (fun X G9 => Q (.inr X) G9) (fun y4 G5 k6 =>
  ((y4 = x5 →
    ((¬ x5 = 0 →
      zWL E l mL_law_ d b G0 Q k6 2293 [some (.ref q0), some (.ref q1), some (.ref q2), some (.ref q3), some (.int x4), none, none] [] G5) ∧
    (¬ (¬ x5 = 0) →
      zar G5 q3 3 ∧ vp_in 0 (zln G5 q3) ∧
      (((lg_cmp ((ziv G5 q3 (0 : Int32).toNatClampNeg)).toInt64 (y1).toInt64) = 0 →
        zWL E l mL_law_ d b G0 Q k6 2293 [some (.ref q0), some (.ref q1), some (.ref q2), some (.ref q3), some (.int x4), none, none] [] G5) ∧
      (¬ ((lg_cmp ((ziv G5 q3 (0 : Int32).toNatClampNeg)).toInt64 (y1).toInt64) = 0) →
        Q (.inl (some (.int 0))) G5))))) ∧
  (¬ (y4 = x5) →
    Q (.inl (some (.int 0))) G5))))
theorem wpt_L_law__1051 {E : ZE} {l : Launch} {d b : Nat} {G0 : ZG} {Q : ZQ} {k : Nat} {q0 : Nat} {q1 : Nat} {q2 : Nat} {q3 : Nat} {x4 : Int32} {x5 : Int32} {s0 : Int32} {s1 : Int32} {s2 : Int32} {s3 : Int32} {s4 : Int32} {p5 : Nat} {G : ZG} (h : wp_L_law__1051 E l d b G0 Q k q0 q1 q2 q3 x4 x5 s0 s1 s2 s3 s4 p5 G) : zWL E l mL_law_ d b G0 Q k 1051 [some (.ref q0), some (.ref q1), some (.ref q2), some (.ref q3), some (.int x4), some (.int x5), none] [.int s0, .int s1, .int s2, .int s3, .int s4, .ref p5] G := by
  unfold wp_L_law__1051 at h
  obtain ⟨h1, h⟩ := h
  obtain ⟨d1, b1, Qz, hm, hdd, hb, hkx, hk⟩ := h
  refine y_callV (Y := mX12_ask) (n := 5) (as := [.int s4, .int s3, .int s2, .int s1, .int s0]) (st := []) (pc' := 1054) (ci := 13) (q := p5) hm dL_law__1051 kL_169 vX12_ask rfl rfl (by decide) rfl h1 hdd hb (Nat.le_of_ble_eq_true rfl) (fun r G2 hz => ?_) hkx
  obtain ⟨y1, rfl, h⟩ := hk r G2 hz
  refine y_istore (pc' := 1056) dL_law__1054 (by decide) rfl ?_
  refine y_aload_n (pc' := 1057) dL_law__1056 rfl rfl ?_
  obtain ⟨h1, h⟩ := h
  obtain ⟨d1, b1, Qz, hm, hdd, hb, hkx, hk⟩ := h
  refine y_callV (Y := mX12_thrown) (n := 0) (as := []) (st := []) (pc' := 1060) (ci := 13) (q := q2) hm dL_law__1057 kL_133 vX12_thrown rfl rfl (by decide) rfl h1 hdd hb (Nat.le_of_ble_eq_true rfl) (fun r G5 hz => ?_) hkx
  obtain ⟨y4, rfl, h⟩ := hk r G5 hz
  refine y_iload (pc' := 1062) dL_law__1060 rfl rfl ?_
  refine y_icmp_eq (pt := 1067) (pc' := 1065) dL_law__1062 (by decide) rfl (fun hc => ?_) (fun hc => ?_)
  · have h := h.1 hc
    refine y_iload (pc' := 1069) dL_law__1067 rfl rfl ?_
    refine y_if_ne (pt := 1084) (pc' := 1072) dL_law__1069 (by decide) rfl (fun hc => ?_) (fun hc => ?_)
    · have h := h.1 hc
      refine y_goto (pc' := 2293) dL_law__1084 (by decide) ?_
      exact y_dr (ls' := [some (.ref q0), some (.ref q1), some (.ref q2), some (.ref q3), some (.int x4), none, none]) ⟨rfl, rfl, rfl, rfl, rfl, trivial⟩ h
    · have h := h.2 hc
      refine y_aload_n (pc' := 1073) dL_law__1072 rfl rfl ?_
      refine y_iconst (x := 0) (pc' := 1074) dL_law__1073 (by decide) rfl ?_
      obtain ⟨h1, h2, h⟩ := h
      refine y_lald (pc' := 1075) dL_law__1074 rfl h1 h2 ?_
      refine y_iload (pc' := 1077) dL_law__1075 rfl rfl ?_
      refine y_i2l (pc' := 1078) dL_law__1077 rfl ?_
      refine y_lcmp (pc' := 1079) dL_law__1078 rfl rfl ?_
      refine y_if_eq (pt := 1084) (pc' := 1082) dL_law__1079 (by decide) rfl (fun hc => ?_) (fun hc => ?_)
      · have h := h.1 hc
        refine y_goto (pc' := 2293) dL_law__1084 (by decide) ?_
        exact y_dr (ls' := [some (.ref q0), some (.ref q1), some (.ref q2), some (.ref q3), some (.int x4), none, none]) ⟨rfl, rfl, rfl, rfl, rfl, trivial⟩ h
      · have h := h.2 hc
        refine y_iconst (x := 0) (pc' := 1083) dL_law__1082 (by decide) rfl ?_
        exact y_zret (ty := .boolean) dL_law__1083 rfl (by decide) h
  · have h := h.2 hc
    refine y_iconst (x := 0) (pc' := 1066) dL_law__1065 (by decide) rfl ?_
    exact y_zret (ty := .boolean) dL_law__1066 rfl (by decide) h
def wp_L_law__1087 (E : ZE) (l : Launch) (d b : Nat) (G0 : ZG) (Q : ZQ) (k : Nat) (q0 : Nat) (q1 : Nat) (q2 : Nat) (q3 : Nat) (x4 : Int32) (G : ZG) : Prop :=
  (zar G q0 0 ∨ zrd G q0 .int) ∧ vp_in (x4 + 1) (zln G q0) ∧
  (zar G q0 0 ∨ zrd G q0 .int) ∧ vp_in (x4 + 2) (zln G q0) ∧
  xhI [(0, 10, 13, 24), (0, 10, 17, 13), (0, 10, 21, 53)] E l mL_give d [.ref q1, .int (ziv G q0 (x4 + 1).toNatClampNeg), .int (ziv G q0 (x4 + 2).toNatClampNeg), .ref q3] G k (fun X G9 => Q (.inr X) G9) (fun y1 G2 k3 =>
  (zar G2 q0 0 ∨ zrd G2 q0 .int) ∧ vp_in (x4 + 1) (zln G2 q0) ∧
  (zar G2 q0 0 ∨ zrd G2 q0 .int) ∧ vp_in (x4 + 2) (zln G2 q0) ∧
  zob G2 q2 13 ∧
  xcI E l mX12_give d [.ref q2, .int (ziv G2 q0 (x4 + 1).toNatClampNeg), .int (ziv G2 q0 (x4 + 2).toNatClampNeg)] G2 k3 (fun X G9 => Q (.inr X) G9) (fun y4 G5 k6 =>
  zob G5 q2 13 ∧
  xcI E l mX12_thrown d [.ref q2] G5 k6 (fun X G9 => Q (.inr X) G9) (fun y7 G8 k9 =>
  ((y7 = y1 →
    ((¬ y1 = 0 →
      zWL E l mL_law_ d b G0 Q k9 2293 [some (.ref q0), some (.ref q1), some (.ref q2), some (.ref q3), some (.int x4), none, none] [] G8) ∧
    (¬ (¬ y1 = 0) →
      zar G8 q3 3 ∧ vp_in 0 (zln G8 q3) ∧
      (((lg_cmp ((ziv G8 q3 (0 : Int32).toNatClampNeg)).toInt64 (y4).toInt64) = 0 →
        zWL E l mL_law_ d b G0 Q k9 2293 [some (.ref q0), some (.ref q1), some (.ref q2), some (.ref q3), some (.int x4), none, none] [] G8) ∧
      (¬ ((lg_cmp ((ziv G8 q3 (0 : Int32).toNatClampNeg)).toInt64 (y4).toInt64) = 0) →
        Q (.inl (some (.int 0))) G8))))) ∧
  (¬ (y7 = y1) →
    Q (.inl (some (.int 0))) G8)))))
theorem wpt_L_law__1087 {E : ZE} {l : Launch} {d b : Nat} {G0 : ZG} {Q : ZQ} {k : Nat} {q0 : Nat} {q1 : Nat} {q2 : Nat} {q3 : Nat} {x4 : Int32} {G : ZG} (h : wp_L_law__1087 E l d b G0 Q k q0 q1 q2 q3 x4 G) : zWL E l mL_law_ d b G0 Q k 1087 [some (.ref q0), some (.ref q1), some (.ref q2), some (.ref q3), some (.int x4), none, none] [] G := by
  unfold wp_L_law__1087 at h
  refine y_aload_n (pc' := 1088) dL_law__1087 rfl rfl ?_
  refine y_aload_n (pc' := 1089) dL_law__1088 rfl rfl ?_
  refine y_iload (pc' := 1091) dL_law__1089 rfl rfl ?_
  refine y_iconst (x := 1) (pc' := 1092) dL_law__1091 (by decide) rfl ?_
  refine y_iadd (pc' := 1093) dL_law__1092 rfl rfl ?_
  obtain ⟨h1, h2, h⟩ := h
  refine y_iald (pc' := 1094) dL_law__1093 rfl h1 h2 ?_
  refine y_aload_n (pc' := 1095) dL_law__1094 rfl rfl ?_
  refine y_iload (pc' := 1097) dL_law__1095 rfl rfl ?_
  refine y_iconst (x := 2) (pc' := 1098) dL_law__1097 (by decide) rfl ?_
  refine y_iadd (pc' := 1099) dL_law__1098 rfl rfl ?_
  obtain ⟨h1, h2, h⟩ := h
  refine y_iald (pc' := 1100) dL_law__1099 rfl h1 h2 ?_
  refine y_aload_n (pc' := 1101) dL_law__1100 rfl rfl ?_
  obtain ⟨d1, b1, Qz, hm, hdd, hb, hkx, hk⟩ := h
  refine y_callH (Y := mL_give) (n := 4) (as := [.ref q1, .int (ziv G q0 (x4 + 1).toNatClampNeg), .int (ziv G q0 (x4 + 2).toNatClampNeg), .ref q3]) (st := []) (pc' := 1104) hm dL_law__1101 kL_170 hL_give rfl rfl hdd hb (Nat.le_of_ble_eq_true rfl) (fun r G2 hz => ?_) hkx
  obtain ⟨y1, rfl, h⟩ := hk r G2 hz
  refine y_istore (pc' := 1106) dL_law__1104 (by decide) rfl ?_
  refine y_aload_n (pc' := 1107) dL_law__1106 rfl rfl ?_
  refine y_aload_n (pc' := 1108) dL_law__1107 rfl rfl ?_
  refine y_iload (pc' := 1110) dL_law__1108 rfl rfl ?_
  refine y_iconst (x := 1) (pc' := 1111) dL_law__1110 (by decide) rfl ?_
  refine y_iadd (pc' := 1112) dL_law__1111 rfl rfl ?_
  obtain ⟨h1, h2, h⟩ := h
  refine y_iald (pc' := 1113) dL_law__1112 rfl h1 h2 ?_
  refine y_aload_n (pc' := 1114) dL_law__1113 rfl rfl ?_
  refine y_iload (pc' := 1116) dL_law__1114 rfl rfl ?_
  refine y_iconst (x := 2) (pc' := 1117) dL_law__1116 (by decide) rfl ?_
  refine y_iadd (pc' := 1118) dL_law__1117 rfl rfl ?_
  obtain ⟨h1, h2, h⟩ := h
  refine y_iald (pc' := 1119) dL_law__1118 rfl h1 h2 ?_
  obtain ⟨h1, h⟩ := h
  obtain ⟨d1, b1, Qz, hm, hdd, hb, hkx, hk⟩ := h
  refine y_callV (Y := mX12_give) (n := 2) (as := [.int (ziv G2 q0 (x4 + 1).toNatClampNeg), .int (ziv G2 q0 (x4 + 2).toNatClampNeg)]) (st := []) (pc' := 1122) (ci := 13) (q := q2) hm dL_law__1119 kL_172 vX12_give rfl rfl (by decide) rfl h1 hdd hb (Nat.le_of_ble_eq_true rfl) (fun r G5 hz => ?_) hkx
  obtain ⟨y4, rfl, h⟩ := hk r G5 hz
  refine y_istore (pc' := 1124) dL_law__1122 (by decide) rfl ?_
  refine y_aload_n (pc' := 1125) dL_law__1124 rfl rfl ?_
  obtain ⟨h1, h⟩ := h
  obtain ⟨d1, b1, Qz, hm, hdd, hb, hkx, hk⟩ := h
  refine y_callV (Y := mX12_thrown) (n := 0) (as := []) (st := []) (pc' := 1128) (ci := 13) (q := q2) hm dL_law__1125 kL_133 vX12_thrown rfl rfl (by decide) rfl h1 hdd hb (Nat.le_of_ble_eq_true rfl) (fun r G8 hz => ?_) hkx
  obtain ⟨y7, rfl, h⟩ := hk r G8 hz
  refine y_iload (pc' := 1130) dL_law__1128 rfl rfl ?_
  refine y_icmp_eq (pt := 1135) (pc' := 1133) dL_law__1130 (by decide) rfl (fun hc => ?_) (fun hc => ?_)
  · have h := h.1 hc
    refine y_iload (pc' := 1137) dL_law__1135 rfl rfl ?_
    refine y_if_ne (pt := 1152) (pc' := 1140) dL_law__1137 (by decide) rfl (fun hc => ?_) (fun hc => ?_)
    · have h := h.1 hc
      refine y_goto (pc' := 2293) dL_law__1152 (by decide) ?_
      exact y_dr (ls' := [some (.ref q0), some (.ref q1), some (.ref q2), some (.ref q3), some (.int x4), none, none]) ⟨rfl, rfl, rfl, rfl, rfl, trivial⟩ h
    · have h := h.2 hc
      refine y_aload_n (pc' := 1141) dL_law__1140 rfl rfl ?_
      refine y_iconst (x := 0) (pc' := 1142) dL_law__1141 (by decide) rfl ?_
      obtain ⟨h1, h2, h⟩ := h
      refine y_lald (pc' := 1143) dL_law__1142 rfl h1 h2 ?_
      refine y_iload (pc' := 1145) dL_law__1143 rfl rfl ?_
      refine y_i2l (pc' := 1146) dL_law__1145 rfl ?_
      refine y_lcmp (pc' := 1147) dL_law__1146 rfl rfl ?_
      refine y_if_eq (pt := 1152) (pc' := 1150) dL_law__1147 (by decide) rfl (fun hc => ?_) (fun hc => ?_)
      · have h := h.1 hc
        refine y_goto (pc' := 2293) dL_law__1152 (by decide) ?_
        exact y_dr (ls' := [some (.ref q0), some (.ref q1), some (.ref q2), some (.ref q3), some (.int x4), none, none]) ⟨rfl, rfl, rfl, rfl, rfl, trivial⟩ h
      · have h := h.2 hc
        refine y_iconst (x := 0) (pc' := 1151) dL_law__1150 (by decide) rfl ?_
        exact y_zret (ty := .boolean) dL_law__1151 rfl (by decide) h
  · have h := h.2 hc
    refine y_iconst (x := 0) (pc' := 1134) dL_law__1133 (by decide) rfl ?_
    exact y_zret (ty := .boolean) dL_law__1134 rfl (by decide) h
def wp_L_law__1155 (E : ZE) (l : Launch) (d b : Nat) (G0 : ZG) (Q : ZQ) (k : Nat) (q0 : Nat) (q1 : Nat) (q2 : Nat) (q3 : Nat) (x4 : Int32) (G : ZG) : Prop :=
  (zar G q0 0 ∨ zrd G q0 .int) ∧ vp_in (x4 + 1) (zln G q0) ∧
  (zar G q0 0 ∨ zrd G q0 .int) ∧ vp_in (x4 + 2) (zln G q0) ∧
  xhI [(0, 6, 9, 24), (0, 6, 12, 13)] E l mL_hands d [.ref q1, .int (ziv G q0 (x4 + 1).toNatClampNeg), .int (ziv G q0 (x4 + 2).toNatClampNeg)] G k (fun X G9 => Q (.inr X) G9) (fun y1 G2 k3 =>
  (zar G2 q0 0 ∨ zrd G2 q0 .int) ∧ vp_in (x4 + 1) (zln G2 q0) ∧
  (zar G2 q0 0 ∨ zrd G2 q0 .int) ∧ vp_in (x4 + 2) (zln G2 q0) ∧
  zob G2 q2 13 ∧
  xcV E l mX12_hands d [.ref q2, .int (ziv G2 q0 (x4 + 1).toNatClampNeg), .int (ziv G2 q0 (x4 + 2).toNatClampNeg)] G2 k3 (fun X G9 => Q (.inr X) G9) (fun G4 k5 =>
  zob G4 q2 13 ∧
  xcI E l mX12_thrown d [.ref q2] G4 k5 (fun X G9 => Q (.inr X) G9) (fun y6 G7 k8 =>
  ((y6 = y1 →
    zWL E l mL_law_ d b G0 Q k8 2293 [some (.ref q0), some (.ref q1), some (.ref q2), some (.ref q3), some (.int x4), none, none] [] G7) ∧
  (¬ (y6 = y1) →
    Q (.inl (some (.int 0))) G7)))))
theorem wpt_L_law__1155 {E : ZE} {l : Launch} {d b : Nat} {G0 : ZG} {Q : ZQ} {k : Nat} {q0 : Nat} {q1 : Nat} {q2 : Nat} {q3 : Nat} {x4 : Int32} {G : ZG} (h : wp_L_law__1155 E l d b G0 Q k q0 q1 q2 q3 x4 G) : zWL E l mL_law_ d b G0 Q k 1155 [some (.ref q0), some (.ref q1), some (.ref q2), some (.ref q3), some (.int x4), none, none] [] G := by
  unfold wp_L_law__1155 at h
  refine y_aload_n (pc' := 1156) dL_law__1155 rfl rfl ?_
  refine y_aload_n (pc' := 1157) dL_law__1156 rfl rfl ?_
  refine y_iload (pc' := 1159) dL_law__1157 rfl rfl ?_
  refine y_iconst (x := 1) (pc' := 1160) dL_law__1159 (by decide) rfl ?_
  refine y_iadd (pc' := 1161) dL_law__1160 rfl rfl ?_
  obtain ⟨h1, h2, h⟩ := h
  refine y_iald (pc' := 1162) dL_law__1161 rfl h1 h2 ?_
  refine y_aload_n (pc' := 1163) dL_law__1162 rfl rfl ?_
  refine y_iload (pc' := 1165) dL_law__1163 rfl rfl ?_
  refine y_iconst (x := 2) (pc' := 1166) dL_law__1165 (by decide) rfl ?_
  refine y_iadd (pc' := 1167) dL_law__1166 rfl rfl ?_
  obtain ⟨h1, h2, h⟩ := h
  refine y_iald (pc' := 1168) dL_law__1167 rfl h1 h2 ?_
  obtain ⟨d1, b1, Qz, hm, hdd, hb, hkx, hk⟩ := h
  refine y_callH (Y := mL_hands) (n := 3) (as := [.ref q1, .int (ziv G q0 (x4 + 1).toNatClampNeg), .int (ziv G q0 (x4 + 2).toNatClampNeg)]) (st := []) (pc' := 1171) hm dL_law__1168 kL_173 hL_hands rfl rfl hdd hb (Nat.le_of_ble_eq_true rfl) (fun r G2 hz => ?_) hkx
  obtain ⟨y1, rfl, h⟩ := hk r G2 hz
  refine y_istore (pc' := 1173) dL_law__1171 (by decide) rfl ?_
  refine y_aload_n (pc' := 1174) dL_law__1173 rfl rfl ?_
  refine y_aload_n (pc' := 1175) dL_law__1174 rfl rfl ?_
  refine y_iload (pc' := 1177) dL_law__1175 rfl rfl ?_
  refine y_iconst (x := 1) (pc' := 1178) dL_law__1177 (by decide) rfl ?_
  refine y_iadd (pc' := 1179) dL_law__1178 rfl rfl ?_
  obtain ⟨h1, h2, h⟩ := h
  refine y_iald (pc' := 1180) dL_law__1179 rfl h1 h2 ?_
  refine y_aload_n (pc' := 1181) dL_law__1180 rfl rfl ?_
  refine y_iload (pc' := 1183) dL_law__1181 rfl rfl ?_
  refine y_iconst (x := 2) (pc' := 1184) dL_law__1183 (by decide) rfl ?_
  refine y_iadd (pc' := 1185) dL_law__1184 rfl rfl ?_
  obtain ⟨h1, h2, h⟩ := h
  refine y_iald (pc' := 1186) dL_law__1185 rfl h1 h2 ?_
  obtain ⟨h1, h⟩ := h
  obtain ⟨d1, b1, Qz, hm, hdd, hb, hkx, hk⟩ := h
  refine y_callV (Y := mX12_hands) (n := 2) (as := [.int (ziv G2 q0 (x4 + 1).toNatClampNeg), .int (ziv G2 q0 (x4 + 2).toNatClampNeg)]) (st := []) (pc' := 1189) (ci := 13) (q := q2) hm dL_law__1186 kL_176 vX12_hands rfl rfl (by decide) rfl h1 hdd hb (Nat.le_of_ble_eq_true rfl) (fun r G4 hz => ?_) hkx
  obtain ⟨rfl, h⟩ := hk r G4 hz
  refine y_aload_n (pc' := 1190) dL_law__1189 rfl rfl ?_
  obtain ⟨h1, h⟩ := h
  obtain ⟨d1, b1, Qz, hm, hdd, hb, hkx, hk⟩ := h
  refine y_callV (Y := mX12_thrown) (n := 0) (as := []) (st := []) (pc' := 1193) (ci := 13) (q := q2) hm dL_law__1190 kL_133 vX12_thrown rfl rfl (by decide) rfl h1 hdd hb (Nat.le_of_ble_eq_true rfl) (fun r G7 hz => ?_) hkx
  obtain ⟨y6, rfl, h⟩ := hk r G7 hz
  refine y_iload (pc' := 1195) dL_law__1193 rfl rfl ?_
  refine y_icmp_eq (pt := 1200) (pc' := 1198) dL_law__1195 (by decide) rfl (fun hc => ?_) (fun hc => ?_)
  · have h := h.1 hc
    refine y_goto (pc' := 2293) dL_law__1200 (by decide) ?_
    exact y_dr (ls' := [some (.ref q0), some (.ref q1), some (.ref q2), some (.ref q3), some (.int x4), none, none]) ⟨rfl, rfl, rfl, rfl, rfl, trivial⟩ h
  · have h := h.2 hc
    refine y_iconst (x := 0) (pc' := 1199) dL_law__1198 (by decide) rfl ?_
    exact y_zret (ty := .boolean) dL_law__1199 rfl (by decide) h
def wp_L_law__1203 (E : ZE) (l : Launch) (d b : Nat) (G0 : ZG) (Q : ZQ) (k : Nat) (q0 : Nat) (q1 : Nat) (q2 : Nat) (q3 : Nat) (x4 : Int32) (G : ZG) : Prop :=
  (zar G q0 0 ∨ zrd G q0 .int) ∧ vp_in (x4 + 1) (zln G q0) ∧
  (zar G q0 0 ∨ zrd G q0 .int) ∧ vp_in (x4 + 2) (zln G q0) ∧
  (zar G q0 0 ∨ zrd G q0 .int) ∧ vp_in (x4 + 3) (zln G q0) ∧
  (zar G q0 0 ∨ zrd G q0 .int) ∧ vp_in (x4 + 4) (zln G q0) ∧
  (zar G q0 0 ∨ zrd G q0 .int) ∧ vp_in (x4 + 5) (zln G q0) ∧
  xhI [(0, 16, 19, 24), (0, 16, 23, 13)] E l mL_lend d [.ref q1, .int (ziv G q0 (x4 + 1).toNatClampNeg), .int (ziv G q0 (x4 + 2).toNatClampNeg), .int (ziv G q0 (x4 + 3).toNatClampNeg), .int (ziv G q0 (x4 + 4).toNatClampNeg), .int (ziv G q0 (x4 + 5).toNatClampNeg), .ref q3] G k (fun X G9 => Q (.inr X) G9) (fun y1 G2 k3 =>
  (zar G2 q0 0 ∨ zrd G2 q0 .int) ∧ vp_in (x4 + 1) (zln G2 q0) ∧
  (zar G2 q0 0 ∨ zrd G2 q0 .int) ∧ vp_in (x4 + 2) (zln G2 q0) ∧
  (zar G2 q0 0 ∨ zrd G2 q0 .int) ∧ vp_in (x4 + 3) (zln G2 q0) ∧
  (zar G2 q0 0 ∨ zrd G2 q0 .int) ∧ vp_in (x4 + 4) (zln G2 q0) ∧
  (zar G2 q0 0 ∨ zrd G2 q0 .int) ∧ vp_in (x4 + 5) (zln G2 q0) ∧
  zob G2 q2 13 ∧
  xcI E l mX12_lend d [.ref q2, .int (ziv G2 q0 (x4 + 1).toNatClampNeg), .int (ziv G2 q0 (x4 + 2).toNatClampNeg), .int (ziv G2 q0 (x4 + 3).toNatClampNeg), .int (ziv G2 q0 (x4 + 4).toNatClampNeg), .int (ziv G2 q0 (x4 + 5).toNatClampNeg)] G2 k3 (fun X G9 => Q (.inr X) G9) (fun y4 G5 k6 =>
  zob G5 q2 13 ∧
  xcI E l mX12_thrown d [.ref q2] G5 k6 (fun X G9 => Q (.inr X) G9) (fun y7 G8 k9 =>
  ((y7 = y1 →
    ((¬ y1 = 0 →
      zWL E l mL_law_ d b G0 Q k9 2293 [some (.ref q0), some (.ref q1), some (.ref q2), some (.ref q3), some (.int x4), none, none] [] G8) ∧
    (¬ (¬ y1 = 0) →
      zar G8 q3 3 ∧ vp_in 0 (zln G8 q3) ∧
      (((lg_cmp ((ziv G8 q3 (0 : Int32).toNatClampNeg)).toInt64 (y4).toInt64) = 0 →
        zWL E l mL_law_ d b G0 Q k9 2293 [some (.ref q0), some (.ref q1), some (.ref q2), some (.ref q3), some (.int x4), none, none] [] G8) ∧
      (¬ ((lg_cmp ((ziv G8 q3 (0 : Int32).toNatClampNeg)).toInt64 (y4).toInt64) = 0) →
        Q (.inl (some (.int 0))) G8))))) ∧
  (¬ (y7 = y1) →
    Q (.inl (some (.int 0))) G8)))))
theorem wpt_L_law__1203 {E : ZE} {l : Launch} {d b : Nat} {G0 : ZG} {Q : ZQ} {k : Nat} {q0 : Nat} {q1 : Nat} {q2 : Nat} {q3 : Nat} {x4 : Int32} {G : ZG} (h : wp_L_law__1203 E l d b G0 Q k q0 q1 q2 q3 x4 G) : zWL E l mL_law_ d b G0 Q k 1203 [some (.ref q0), some (.ref q1), some (.ref q2), some (.ref q3), some (.int x4), none, none] [] G := by
  unfold wp_L_law__1203 at h
  refine y_aload_n (pc' := 1204) dL_law__1203 rfl rfl ?_
  refine y_aload_n (pc' := 1205) dL_law__1204 rfl rfl ?_
  refine y_iload (pc' := 1207) dL_law__1205 rfl rfl ?_
  refine y_iconst (x := 1) (pc' := 1208) dL_law__1207 (by decide) rfl ?_
  refine y_iadd (pc' := 1209) dL_law__1208 rfl rfl ?_
  obtain ⟨h1, h2, h⟩ := h
  refine y_iald (pc' := 1210) dL_law__1209 rfl h1 h2 ?_
  refine y_aload_n (pc' := 1211) dL_law__1210 rfl rfl ?_
  refine y_iload (pc' := 1213) dL_law__1211 rfl rfl ?_
  refine y_iconst (x := 2) (pc' := 1214) dL_law__1213 (by decide) rfl ?_
  refine y_iadd (pc' := 1215) dL_law__1214 rfl rfl ?_
  obtain ⟨h1, h2, h⟩ := h
  refine y_iald (pc' := 1216) dL_law__1215 rfl h1 h2 ?_
  refine y_aload_n (pc' := 1217) dL_law__1216 rfl rfl ?_
  refine y_iload (pc' := 1219) dL_law__1217 rfl rfl ?_
  refine y_iconst (x := 3) (pc' := 1220) dL_law__1219 (by decide) rfl ?_
  refine y_iadd (pc' := 1221) dL_law__1220 rfl rfl ?_
  obtain ⟨h1, h2, h⟩ := h
  refine y_iald (pc' := 1222) dL_law__1221 rfl h1 h2 ?_
  refine y_aload_n (pc' := 1223) dL_law__1222 rfl rfl ?_
  refine y_iload (pc' := 1225) dL_law__1223 rfl rfl ?_
  refine y_iconst (x := 4) (pc' := 1226) dL_law__1225 (by decide) rfl ?_
  refine y_iadd (pc' := 1227) dL_law__1226 rfl rfl ?_
  obtain ⟨h1, h2, h⟩ := h
  refine y_iald (pc' := 1228) dL_law__1227 rfl h1 h2 ?_
  refine y_aload_n (pc' := 1229) dL_law__1228 rfl rfl ?_
  refine y_iload (pc' := 1231) dL_law__1229 rfl rfl ?_
  refine y_iconst (x := 5) (pc' := 1232) dL_law__1231 (by decide) rfl ?_
  refine y_iadd (pc' := 1233) dL_law__1232 rfl rfl ?_
  obtain ⟨h1, h2, h⟩ := h
  refine y_iald (pc' := 1234) dL_law__1233 rfl h1 h2 ?_
  refine y_aload_n (pc' := 1235) dL_law__1234 rfl rfl ?_
  obtain ⟨d1, b1, Qz, hm, hdd, hb, hkx, hk⟩ := h
  refine y_callH (Y := mL_lend) (n := 7) (as := [.ref q1, .int (ziv G q0 (x4 + 1).toNatClampNeg), .int (ziv G q0 (x4 + 2).toNatClampNeg), .int (ziv G q0 (x4 + 3).toNatClampNeg), .int (ziv G q0 (x4 + 4).toNatClampNeg), .int (ziv G q0 (x4 + 5).toNatClampNeg), .ref q3]) (st := []) (pc' := 1238) hm dL_law__1235 kL_177 hL_lend rfl rfl hdd hb (Nat.le_of_ble_eq_true rfl) (fun r G2 hz => ?_) hkx
  obtain ⟨y1, rfl, h⟩ := hk r G2 hz
  refine y_istore (pc' := 1240) dL_law__1238 (by decide) rfl ?_
  refine y_aload_n (pc' := 1241) dL_law__1240 rfl rfl ?_
  refine y_aload_n (pc' := 1242) dL_law__1241 rfl rfl ?_
  refine y_iload (pc' := 1244) dL_law__1242 rfl rfl ?_
  refine y_iconst (x := 1) (pc' := 1245) dL_law__1244 (by decide) rfl ?_
  refine y_iadd (pc' := 1246) dL_law__1245 rfl rfl ?_
  obtain ⟨h1, h2, h⟩ := h
  refine y_iald (pc' := 1247) dL_law__1246 rfl h1 h2 ?_
  refine y_aload_n (pc' := 1248) dL_law__1247 rfl rfl ?_
  refine y_iload (pc' := 1250) dL_law__1248 rfl rfl ?_
  refine y_iconst (x := 2) (pc' := 1251) dL_law__1250 (by decide) rfl ?_
  refine y_iadd (pc' := 1252) dL_law__1251 rfl rfl ?_
  obtain ⟨h1, h2, h⟩ := h
  refine y_iald (pc' := 1253) dL_law__1252 rfl h1 h2 ?_
  refine y_aload_n (pc' := 1254) dL_law__1253 rfl rfl ?_
  refine y_iload (pc' := 1256) dL_law__1254 rfl rfl ?_
  refine y_iconst (x := 3) (pc' := 1257) dL_law__1256 (by decide) rfl ?_
  refine y_iadd (pc' := 1258) dL_law__1257 rfl rfl ?_
  obtain ⟨h1, h2, h⟩ := h
  refine y_iald (pc' := 1259) dL_law__1258 rfl h1 h2 ?_
  refine y_aload_n (pc' := 1260) dL_law__1259 rfl rfl ?_
  refine y_iload (pc' := 1262) dL_law__1260 rfl rfl ?_
  refine y_iconst (x := 4) (pc' := 1263) dL_law__1262 (by decide) rfl ?_
  refine y_iadd (pc' := 1264) dL_law__1263 rfl rfl ?_
  obtain ⟨h1, h2, h⟩ := h
  refine y_iald (pc' := 1265) dL_law__1264 rfl h1 h2 ?_
  refine y_aload_n (pc' := 1266) dL_law__1265 rfl rfl ?_
  refine y_iload (pc' := 1268) dL_law__1266 rfl rfl ?_
  refine y_iconst (x := 5) (pc' := 1269) dL_law__1268 (by decide) rfl ?_
  refine y_iadd (pc' := 1270) dL_law__1269 rfl rfl ?_
  obtain ⟨h1, h2, h⟩ := h
  refine y_iald (pc' := 1271) dL_law__1270 rfl h1 h2 ?_
  obtain ⟨h1, h⟩ := h
  obtain ⟨d1, b1, Qz, hm, hdd, hb, hkx, hk⟩ := h
  refine y_callV (Y := mX12_lend) (n := 5) (as := [.int (ziv G2 q0 (x4 + 1).toNatClampNeg), .int (ziv G2 q0 (x4 + 2).toNatClampNeg), .int (ziv G2 q0 (x4 + 3).toNatClampNeg), .int (ziv G2 q0 (x4 + 4).toNatClampNeg), .int (ziv G2 q0 (x4 + 5).toNatClampNeg)]) (st := []) (pc' := 1274) (ci := 13) (q := q2) hm dL_law__1271 kL_180 vX12_lend rfl rfl (by decide) rfl h1 hdd hb (Nat.le_of_ble_eq_true rfl) (fun r G5 hz => ?_) hkx
  obtain ⟨y4, rfl, h⟩ := hk r G5 hz
  refine y_istore (pc' := 1276) dL_law__1274 (by decide) rfl ?_
  refine y_aload_n (pc' := 1277) dL_law__1276 rfl rfl ?_
  obtain ⟨h1, h⟩ := h
  obtain ⟨d1, b1, Qz, hm, hdd, hb, hkx, hk⟩ := h
  refine y_callV (Y := mX12_thrown) (n := 0) (as := []) (st := []) (pc' := 1280) (ci := 13) (q := q2) hm dL_law__1277 kL_133 vX12_thrown rfl rfl (by decide) rfl h1 hdd hb (Nat.le_of_ble_eq_true rfl) (fun r G8 hz => ?_) hkx
  obtain ⟨y7, rfl, h⟩ := hk r G8 hz
  refine y_iload (pc' := 1282) dL_law__1280 rfl rfl ?_
  refine y_icmp_eq (pt := 1287) (pc' := 1285) dL_law__1282 (by decide) rfl (fun hc => ?_) (fun hc => ?_)
  · have h := h.1 hc
    refine y_iload (pc' := 1289) dL_law__1287 rfl rfl ?_
    refine y_if_ne (pt := 1304) (pc' := 1292) dL_law__1289 (by decide) rfl (fun hc => ?_) (fun hc => ?_)
    · have h := h.1 hc
      refine y_goto (pc' := 2293) dL_law__1304 (by decide) ?_
      exact y_dr (ls' := [some (.ref q0), some (.ref q1), some (.ref q2), some (.ref q3), some (.int x4), none, none]) ⟨rfl, rfl, rfl, rfl, rfl, trivial⟩ h
    · have h := h.2 hc
      refine y_aload_n (pc' := 1293) dL_law__1292 rfl rfl ?_
      refine y_iconst (x := 0) (pc' := 1294) dL_law__1293 (by decide) rfl ?_
      obtain ⟨h1, h2, h⟩ := h
      refine y_lald (pc' := 1295) dL_law__1294 rfl h1 h2 ?_
      refine y_iload (pc' := 1297) dL_law__1295 rfl rfl ?_
      refine y_i2l (pc' := 1298) dL_law__1297 rfl ?_
      refine y_lcmp (pc' := 1299) dL_law__1298 rfl rfl ?_
      refine y_if_eq (pt := 1304) (pc' := 1302) dL_law__1299 (by decide) rfl (fun hc => ?_) (fun hc => ?_)
      · have h := h.1 hc
        refine y_goto (pc' := 2293) dL_law__1304 (by decide) ?_
        exact y_dr (ls' := [some (.ref q0), some (.ref q1), some (.ref q2), some (.ref q3), some (.int x4), none, none]) ⟨rfl, rfl, rfl, rfl, rfl, trivial⟩ h
      · have h := h.2 hc
        refine y_iconst (x := 0) (pc' := 1303) dL_law__1302 (by decide) rfl ?_
        exact y_zret (ty := .boolean) dL_law__1303 rfl (by decide) h
  · have h := h.2 hc
    refine y_iconst (x := 0) (pc' := 1286) dL_law__1285 (by decide) rfl ?_
    exact y_zret (ty := .boolean) dL_law__1286 rfl (by decide) h
def wp_L_law__1307 (E : ZE) (l : Launch) (d b : Nat) (G0 : ZG) (Q : ZQ) (k : Nat) (q0 : Nat) (q1 : Nat) (q2 : Nat) (q3 : Nat) (x4 : Int32) (G : ZG) : Prop :=
  (zar G q0 0 ∨ zrd G q0 .int) ∧ vp_in (x4 + 1) (zln G q0) ∧
  (zar G q0 0 ∨ zrd G q0 .int) ∧ vp_in (x4 + 2) (zln G q0) ∧
  xhI [(0, 10, 13, 24)] E l mL_units d [.ref q1, .int (ziv G q0 (x4 + 1).toNatClampNeg), .int (ziv G q0 (x4 + 2).toNatClampNeg), .ref q3] G k (fun X G9 => Q (.inr X) G9) (fun y1 G2 k3 =>
  (zar G2 q0 0 ∨ zrd G2 q0 .int) ∧ vp_in (x4 + 1) (zln G2 q0) ∧
  (zar G2 q0 0 ∨ zrd G2 q0 .int) ∧ vp_in (x4 + 2) (zln G2 q0) ∧
  zob G2 q2 13 ∧
  xcI E l mX12_units d [.ref q2, .int (ziv G2 q0 (x4 + 1).toNatClampNeg), .int (ziv G2 q0 (x4 + 2).toNatClampNeg)] G2 k3 (fun X G9 => Q (.inr X) G9) (fun y4 G5 k6 =>
  zob G5 q2 13 ∧
  xcI E l mX12_thrown d [.ref q2] G5 k6 (fun X G9 => Q (.inr X) G9) (fun y7 G8 k9 =>
  ((y7 = y1 →
    ((¬ y1 = 0 →
      zWL E l mL_law_ d b G0 Q k9 2293 [some (.ref q0), some (.ref q1), some (.ref q2), some (.ref q3), some (.int x4), none, none] [] G8) ∧
    (¬ (¬ y1 = 0) →
      zar G8 q3 3 ∧ vp_in 0 (zln G8 q3) ∧
      (((lg_cmp ((ziv G8 q3 (0 : Int32).toNatClampNeg)).toInt64 (y4).toInt64) = 0 →
        zWL E l mL_law_ d b G0 Q k9 2293 [some (.ref q0), some (.ref q1), some (.ref q2), some (.ref q3), some (.int x4), none, none] [] G8) ∧
      (¬ ((lg_cmp ((ziv G8 q3 (0 : Int32).toNatClampNeg)).toInt64 (y4).toInt64) = 0) →
        Q (.inl (some (.int 0))) G8))))) ∧
  (¬ (y7 = y1) →
    Q (.inl (some (.int 0))) G8)))))
theorem wpt_L_law__1307 {E : ZE} {l : Launch} {d b : Nat} {G0 : ZG} {Q : ZQ} {k : Nat} {q0 : Nat} {q1 : Nat} {q2 : Nat} {q3 : Nat} {x4 : Int32} {G : ZG} (h : wp_L_law__1307 E l d b G0 Q k q0 q1 q2 q3 x4 G) : zWL E l mL_law_ d b G0 Q k 1307 [some (.ref q0), some (.ref q1), some (.ref q2), some (.ref q3), some (.int x4), none, none] [] G := by
  unfold wp_L_law__1307 at h
  refine y_aload_n (pc' := 1308) dL_law__1307 rfl rfl ?_
  refine y_aload_n (pc' := 1309) dL_law__1308 rfl rfl ?_
  refine y_iload (pc' := 1311) dL_law__1309 rfl rfl ?_
  refine y_iconst (x := 1) (pc' := 1312) dL_law__1311 (by decide) rfl ?_
  refine y_iadd (pc' := 1313) dL_law__1312 rfl rfl ?_
  obtain ⟨h1, h2, h⟩ := h
  refine y_iald (pc' := 1314) dL_law__1313 rfl h1 h2 ?_
  refine y_aload_n (pc' := 1315) dL_law__1314 rfl rfl ?_
  refine y_iload (pc' := 1317) dL_law__1315 rfl rfl ?_
  refine y_iconst (x := 2) (pc' := 1318) dL_law__1317 (by decide) rfl ?_
  refine y_iadd (pc' := 1319) dL_law__1318 rfl rfl ?_
  obtain ⟨h1, h2, h⟩ := h
  refine y_iald (pc' := 1320) dL_law__1319 rfl h1 h2 ?_
  refine y_aload_n (pc' := 1321) dL_law__1320 rfl rfl ?_
  obtain ⟨d1, b1, Qz, hm, hdd, hb, hkx, hk⟩ := h
  refine y_callH (Y := mL_units) (n := 4) (as := [.ref q1, .int (ziv G q0 (x4 + 1).toNatClampNeg), .int (ziv G q0 (x4 + 2).toNatClampNeg), .ref q3]) (st := []) (pc' := 1324) hm dL_law__1321 kL_181 hL_units rfl rfl hdd hb (Nat.le_of_ble_eq_true rfl) (fun r G2 hz => ?_) hkx
  obtain ⟨y1, rfl, h⟩ := hk r G2 hz
  refine y_istore (pc' := 1326) dL_law__1324 (by decide) rfl ?_
  refine y_aload_n (pc' := 1327) dL_law__1326 rfl rfl ?_
  refine y_aload_n (pc' := 1328) dL_law__1327 rfl rfl ?_
  refine y_iload (pc' := 1330) dL_law__1328 rfl rfl ?_
  refine y_iconst (x := 1) (pc' := 1331) dL_law__1330 (by decide) rfl ?_
  refine y_iadd (pc' := 1332) dL_law__1331 rfl rfl ?_
  obtain ⟨h1, h2, h⟩ := h
  refine y_iald (pc' := 1333) dL_law__1332 rfl h1 h2 ?_
  refine y_aload_n (pc' := 1334) dL_law__1333 rfl rfl ?_
  refine y_iload (pc' := 1336) dL_law__1334 rfl rfl ?_
  refine y_iconst (x := 2) (pc' := 1337) dL_law__1336 (by decide) rfl ?_
  refine y_iadd (pc' := 1338) dL_law__1337 rfl rfl ?_
  obtain ⟨h1, h2, h⟩ := h
  refine y_iald (pc' := 1339) dL_law__1338 rfl h1 h2 ?_
  obtain ⟨h1, h⟩ := h
  obtain ⟨d1, b1, Qz, hm, hdd, hb, hkx, hk⟩ := h
  refine y_callV (Y := mX12_units) (n := 2) (as := [.int (ziv G2 q0 (x4 + 1).toNatClampNeg), .int (ziv G2 q0 (x4 + 2).toNatClampNeg)]) (st := []) (pc' := 1342) (ci := 13) (q := q2) hm dL_law__1339 kL_183 vX12_units rfl rfl (by decide) rfl h1 hdd hb (Nat.le_of_ble_eq_true rfl) (fun r G5 hz => ?_) hkx
  obtain ⟨y4, rfl, h⟩ := hk r G5 hz
  refine y_istore (pc' := 1344) dL_law__1342 (by decide) rfl ?_
  refine y_aload_n (pc' := 1345) dL_law__1344 rfl rfl ?_
  obtain ⟨h1, h⟩ := h
  obtain ⟨d1, b1, Qz, hm, hdd, hb, hkx, hk⟩ := h
  refine y_callV (Y := mX12_thrown) (n := 0) (as := []) (st := []) (pc' := 1348) (ci := 13) (q := q2) hm dL_law__1345 kL_133 vX12_thrown rfl rfl (by decide) rfl h1 hdd hb (Nat.le_of_ble_eq_true rfl) (fun r G8 hz => ?_) hkx
  obtain ⟨y7, rfl, h⟩ := hk r G8 hz
  refine y_iload (pc' := 1350) dL_law__1348 rfl rfl ?_
  refine y_icmp_eq (pt := 1355) (pc' := 1353) dL_law__1350 (by decide) rfl (fun hc => ?_) (fun hc => ?_)
  · have h := h.1 hc
    refine y_iload (pc' := 1357) dL_law__1355 rfl rfl ?_
    refine y_if_ne (pt := 1372) (pc' := 1360) dL_law__1357 (by decide) rfl (fun hc => ?_) (fun hc => ?_)
    · have h := h.1 hc
      refine y_goto (pc' := 2293) dL_law__1372 (by decide) ?_
      exact y_dr (ls' := [some (.ref q0), some (.ref q1), some (.ref q2), some (.ref q3), some (.int x4), none, none]) ⟨rfl, rfl, rfl, rfl, rfl, trivial⟩ h
    · have h := h.2 hc
      refine y_aload_n (pc' := 1361) dL_law__1360 rfl rfl ?_
      refine y_iconst (x := 0) (pc' := 1362) dL_law__1361 (by decide) rfl ?_
      obtain ⟨h1, h2, h⟩ := h
      refine y_lald (pc' := 1363) dL_law__1362 rfl h1 h2 ?_
      refine y_iload (pc' := 1365) dL_law__1363 rfl rfl ?_
      refine y_i2l (pc' := 1366) dL_law__1365 rfl ?_
      refine y_lcmp (pc' := 1367) dL_law__1366 rfl rfl ?_
      refine y_if_eq (pt := 1372) (pc' := 1370) dL_law__1367 (by decide) rfl (fun hc => ?_) (fun hc => ?_)
      · have h := h.1 hc
        refine y_goto (pc' := 2293) dL_law__1372 (by decide) ?_
        exact y_dr (ls' := [some (.ref q0), some (.ref q1), some (.ref q2), some (.ref q3), some (.int x4), none, none]) ⟨rfl, rfl, rfl, rfl, rfl, trivial⟩ h
      · have h := h.2 hc
        refine y_iconst (x := 0) (pc' := 1371) dL_law__1370 (by decide) rfl ?_
        exact y_zret (ty := .boolean) dL_law__1371 rfl (by decide) h
  · have h := h.2 hc
    refine y_iconst (x := 0) (pc' := 1354) dL_law__1353 (by decide) rfl ?_
    exact y_zret (ty := .boolean) dL_law__1354 rfl (by decide) h
def wp_L_law__1375 (E : ZE) (l : Launch) (d b : Nat) (G0 : ZG) (Q : ZQ) (k : Nat) (q0 : Nat) (q1 : Nat) (q2 : Nat) (q3 : Nat) (x4 : Int32) (G : ZG) : Prop :=
  (zar G q0 0 ∨ zrd G q0 .int) ∧ vp_in (x4 + 1) (zln G q0) ∧
  (zar G q0 0 ∨ zrd G q0 .int) ∧ vp_in (x4 + 2) (zln G q0) ∧
  (zar G q0 0 ∨ zrd G q0 .int) ∧ vp_in (x4 + 3) (zln G q0) ∧
  (zar G q0 0 ∨ zrd G q0 .int) ∧ vp_in (x4 + 4) (zln G q0) ∧
  (zar G q0 0 ∨ zrd G q0 .int) ∧ vp_in (x4 + 5) (zln G q0) ∧
  xhI [(0, 11, 14, 13)] E l mL_rules d [.ref q1, .int (ziv G q0 (x4 + 1).toNatClampNeg), .int (ziv G q0 (x4 + 2).toNatClampNeg), .int (ziv G q0 (x4 + 3).toNatClampNeg), .int (ziv G q0 (x4 + 4).toNatClampNeg), .int (ziv G q0 (x4 + 5).toNatClampNeg)] G k (fun X G9 => Q (.inr X) G9) (fun y1 G2 k3 =>
  (zar G2 q0 0 ∨ zrd G2 q0 .int) ∧ vp_in (x4 + 1) (zln G2 q0) ∧
  (zar G2 q0 0 ∨ zrd G2 q0 .int) ∧ vp_in (x4 + 2) (zln G2 q0) ∧
  (zar G2 q0 0 ∨ zrd G2 q0 .int) ∧ vp_in (x4 + 3) (zln G2 q0) ∧
  (zar G2 q0 0 ∨ zrd G2 q0 .int) ∧ vp_in (x4 + 4) (zln G2 q0) ∧
  (zar G2 q0 0 ∨ zrd G2 q0 .int) ∧ vp_in (x4 + 5) (zln G2 q0) ∧
  zob G2 q2 13 ∧
  xcV E l mX12_rules d [.ref q2, .int (ziv G2 q0 (x4 + 1).toNatClampNeg), .int (ziv G2 q0 (x4 + 2).toNatClampNeg), .int (ziv G2 q0 (x4 + 3).toNatClampNeg), .int (ziv G2 q0 (x4 + 4).toNatClampNeg), .int (ziv G2 q0 (x4 + 5).toNatClampNeg)] G2 k3 (fun X G9 => Q (.inr X) G9) (fun G4 k5 =>
  zob G4 q2 13 ∧
  xcI E l mX12_thrown d [.ref q2] G4 k5 (fun X G9 => Q (.inr X) G9) (fun y6 G7 k8 =>
  ((y6 = y1 →
    zWL E l mL_law_ d b G0 Q k8 2293 [some (.ref q0), some (.ref q1), some (.ref q2), some (.ref q3), some (.int x4), none, none] [] G7) ∧
  (¬ (y6 = y1) →
    Q (.inl (some (.int 0))) G7)))))
theorem wpt_L_law__1375 {E : ZE} {l : Launch} {d b : Nat} {G0 : ZG} {Q : ZQ} {k : Nat} {q0 : Nat} {q1 : Nat} {q2 : Nat} {q3 : Nat} {x4 : Int32} {G : ZG} (h : wp_L_law__1375 E l d b G0 Q k q0 q1 q2 q3 x4 G) : zWL E l mL_law_ d b G0 Q k 1375 [some (.ref q0), some (.ref q1), some (.ref q2), some (.ref q3), some (.int x4), none, none] [] G := by
  unfold wp_L_law__1375 at h
  refine y_aload_n (pc' := 1376) dL_law__1375 rfl rfl ?_
  refine y_aload_n (pc' := 1377) dL_law__1376 rfl rfl ?_
  refine y_iload (pc' := 1379) dL_law__1377 rfl rfl ?_
  refine y_iconst (x := 1) (pc' := 1380) dL_law__1379 (by decide) rfl ?_
  refine y_iadd (pc' := 1381) dL_law__1380 rfl rfl ?_
  obtain ⟨h1, h2, h⟩ := h
  refine y_iald (pc' := 1382) dL_law__1381 rfl h1 h2 ?_
  refine y_aload_n (pc' := 1383) dL_law__1382 rfl rfl ?_
  refine y_iload (pc' := 1385) dL_law__1383 rfl rfl ?_
  refine y_iconst (x := 2) (pc' := 1386) dL_law__1385 (by decide) rfl ?_
  refine y_iadd (pc' := 1387) dL_law__1386 rfl rfl ?_
  obtain ⟨h1, h2, h⟩ := h
  refine y_iald (pc' := 1388) dL_law__1387 rfl h1 h2 ?_
  refine y_aload_n (pc' := 1389) dL_law__1388 rfl rfl ?_
  refine y_iload (pc' := 1391) dL_law__1389 rfl rfl ?_
  refine y_iconst (x := 3) (pc' := 1392) dL_law__1391 (by decide) rfl ?_
  refine y_iadd (pc' := 1393) dL_law__1392 rfl rfl ?_
  obtain ⟨h1, h2, h⟩ := h
  refine y_iald (pc' := 1394) dL_law__1393 rfl h1 h2 ?_
  refine y_aload_n (pc' := 1395) dL_law__1394 rfl rfl ?_
  refine y_iload (pc' := 1397) dL_law__1395 rfl rfl ?_
  refine y_iconst (x := 4) (pc' := 1398) dL_law__1397 (by decide) rfl ?_
  refine y_iadd (pc' := 1399) dL_law__1398 rfl rfl ?_
  obtain ⟨h1, h2, h⟩ := h
  refine y_iald (pc' := 1400) dL_law__1399 rfl h1 h2 ?_
  refine y_aload_n (pc' := 1401) dL_law__1400 rfl rfl ?_
  refine y_iload (pc' := 1403) dL_law__1401 rfl rfl ?_
  refine y_iconst (x := 5) (pc' := 1404) dL_law__1403 (by decide) rfl ?_
  refine y_iadd (pc' := 1405) dL_law__1404 rfl rfl ?_
  obtain ⟨h1, h2, h⟩ := h
  refine y_iald (pc' := 1406) dL_law__1405 rfl h1 h2 ?_
  obtain ⟨d1, b1, Qz, hm, hdd, hb, hkx, hk⟩ := h
  refine y_callH (Y := mL_rules) (n := 6) (as := [.ref q1, .int (ziv G q0 (x4 + 1).toNatClampNeg), .int (ziv G q0 (x4 + 2).toNatClampNeg), .int (ziv G q0 (x4 + 3).toNatClampNeg), .int (ziv G q0 (x4 + 4).toNatClampNeg), .int (ziv G q0 (x4 + 5).toNatClampNeg)]) (st := []) (pc' := 1409) hm dL_law__1406 kL_184 hL_rules rfl rfl hdd hb (Nat.le_of_ble_eq_true rfl) (fun r G2 hz => ?_) hkx
  obtain ⟨y1, rfl, h⟩ := hk r G2 hz
  refine y_istore (pc' := 1411) dL_law__1409 (by decide) rfl ?_
  refine y_aload_n (pc' := 1412) dL_law__1411 rfl rfl ?_
  refine y_aload_n (pc' := 1413) dL_law__1412 rfl rfl ?_
  refine y_iload (pc' := 1415) dL_law__1413 rfl rfl ?_
  refine y_iconst (x := 1) (pc' := 1416) dL_law__1415 (by decide) rfl ?_
  refine y_iadd (pc' := 1417) dL_law__1416 rfl rfl ?_
  obtain ⟨h1, h2, h⟩ := h
  refine y_iald (pc' := 1418) dL_law__1417 rfl h1 h2 ?_
  refine y_aload_n (pc' := 1419) dL_law__1418 rfl rfl ?_
  refine y_iload (pc' := 1421) dL_law__1419 rfl rfl ?_
  refine y_iconst (x := 2) (pc' := 1422) dL_law__1421 (by decide) rfl ?_
  refine y_iadd (pc' := 1423) dL_law__1422 rfl rfl ?_
  obtain ⟨h1, h2, h⟩ := h
  refine y_iald (pc' := 1424) dL_law__1423 rfl h1 h2 ?_
  refine y_aload_n (pc' := 1425) dL_law__1424 rfl rfl ?_
  refine y_iload (pc' := 1427) dL_law__1425 rfl rfl ?_
  refine y_iconst (x := 3) (pc' := 1428) dL_law__1427 (by decide) rfl ?_
  refine y_iadd (pc' := 1429) dL_law__1428 rfl rfl ?_
  obtain ⟨h1, h2, h⟩ := h
  refine y_iald (pc' := 1430) dL_law__1429 rfl h1 h2 ?_
  refine y_aload_n (pc' := 1431) dL_law__1430 rfl rfl ?_
  refine y_iload (pc' := 1433) dL_law__1431 rfl rfl ?_
  refine y_iconst (x := 4) (pc' := 1434) dL_law__1433 (by decide) rfl ?_
  refine y_iadd (pc' := 1435) dL_law__1434 rfl rfl ?_
  obtain ⟨h1, h2, h⟩ := h
  refine y_iald (pc' := 1436) dL_law__1435 rfl h1 h2 ?_
  refine y_aload_n (pc' := 1437) dL_law__1436 rfl rfl ?_
  refine y_iload (pc' := 1439) dL_law__1437 rfl rfl ?_
  refine y_iconst (x := 5) (pc' := 1440) dL_law__1439 (by decide) rfl ?_
  refine y_iadd (pc' := 1441) dL_law__1440 rfl rfl ?_
  obtain ⟨h1, h2, h⟩ := h
  refine y_iald (pc' := 1442) dL_law__1441 rfl h1 h2 ?_
  obtain ⟨h1, h⟩ := h
  obtain ⟨d1, b1, Qz, hm, hdd, hb, hkx, hk⟩ := h
  refine y_callV (Y := mX12_rules) (n := 5) (as := [.int (ziv G2 q0 (x4 + 1).toNatClampNeg), .int (ziv G2 q0 (x4 + 2).toNatClampNeg), .int (ziv G2 q0 (x4 + 3).toNatClampNeg), .int (ziv G2 q0 (x4 + 4).toNatClampNeg), .int (ziv G2 q0 (x4 + 5).toNatClampNeg)]) (st := []) (pc' := 1445) (ci := 13) (q := q2) hm dL_law__1442 kL_187 vX12_rules rfl rfl (by decide) rfl h1 hdd hb (Nat.le_of_ble_eq_true rfl) (fun r G4 hz => ?_) hkx
  obtain ⟨rfl, h⟩ := hk r G4 hz
  refine y_aload_n (pc' := 1446) dL_law__1445 rfl rfl ?_
  obtain ⟨h1, h⟩ := h
  obtain ⟨d1, b1, Qz, hm, hdd, hb, hkx, hk⟩ := h
  refine y_callV (Y := mX12_thrown) (n := 0) (as := []) (st := []) (pc' := 1449) (ci := 13) (q := q2) hm dL_law__1446 kL_133 vX12_thrown rfl rfl (by decide) rfl h1 hdd hb (Nat.le_of_ble_eq_true rfl) (fun r G7 hz => ?_) hkx
  obtain ⟨y6, rfl, h⟩ := hk r G7 hz
  refine y_iload (pc' := 1451) dL_law__1449 rfl rfl ?_
  refine y_icmp_eq (pt := 1456) (pc' := 1454) dL_law__1451 (by decide) rfl (fun hc => ?_) (fun hc => ?_)
  · have h := h.1 hc
    refine y_goto (pc' := 2293) dL_law__1456 (by decide) ?_
    exact y_dr (ls' := [some (.ref q0), some (.ref q1), some (.ref q2), some (.ref q3), some (.int x4), none, none]) ⟨rfl, rfl, rfl, rfl, rfl, trivial⟩ h
  · have h := h.2 hc
    refine y_iconst (x := 0) (pc' := 1455) dL_law__1454 (by decide) rfl ?_
    exact y_zret (ty := .boolean) dL_law__1455 rfl (by decide) h
def wp_L_law__1459 (E : ZE) (l : Launch) (d b : Nat) (G0 : ZG) (Q : ZQ) (k : Nat) (q0 : Nat) (q1 : Nat) (q2 : Nat) (q3 : Nat) (x4 : Int32) (G : ZG) : Prop :=
  (zar G q0 0 ∨ zrd G q0 .int) ∧ vp_in (x4 + 1) (zln G q0) ∧
  xhI [(0, 5, 8, 13)] E l mL_order d [.ref q1, .int (ziv G q0 (x4 + 1).toNatClampNeg)] G k (fun X G9 => Q (.inr X) G9) (fun y1 G2 k3 =>
  (zar G2 q0 0 ∨ zrd G2 q0 .int) ∧ vp_in (x4 + 1) (zln G2 q0) ∧
  zob G2 q2 13 ∧
  xcV E l mX12_order d [.ref q2, .int (ziv G2 q0 (x4 + 1).toNatClampNeg)] G2 k3 (fun X G9 => Q (.inr X) G9) (fun G4 k5 =>
  zob G4 q2 13 ∧
  xcI E l mX12_thrown d [.ref q2] G4 k5 (fun X G9 => Q (.inr X) G9) (fun y6 G7 k8 =>
  ((y6 = y1 →
    zWL E l mL_law_ d b G0 Q k8 2293 [some (.ref q0), some (.ref q1), some (.ref q2), some (.ref q3), some (.int x4), none, none] [] G7) ∧
  (¬ (y6 = y1) →
    Q (.inl (some (.int 0))) G7)))))
theorem wpt_L_law__1459 {E : ZE} {l : Launch} {d b : Nat} {G0 : ZG} {Q : ZQ} {k : Nat} {q0 : Nat} {q1 : Nat} {q2 : Nat} {q3 : Nat} {x4 : Int32} {G : ZG} (h : wp_L_law__1459 E l d b G0 Q k q0 q1 q2 q3 x4 G) : zWL E l mL_law_ d b G0 Q k 1459 [some (.ref q0), some (.ref q1), some (.ref q2), some (.ref q3), some (.int x4), none, none] [] G := by
  unfold wp_L_law__1459 at h
  refine y_aload_n (pc' := 1460) dL_law__1459 rfl rfl ?_
  refine y_aload_n (pc' := 1461) dL_law__1460 rfl rfl ?_
  refine y_iload (pc' := 1463) dL_law__1461 rfl rfl ?_
  refine y_iconst (x := 1) (pc' := 1464) dL_law__1463 (by decide) rfl ?_
  refine y_iadd (pc' := 1465) dL_law__1464 rfl rfl ?_
  obtain ⟨h1, h2, h⟩ := h
  refine y_iald (pc' := 1466) dL_law__1465 rfl h1 h2 ?_
  obtain ⟨d1, b1, Qz, hm, hdd, hb, hkx, hk⟩ := h
  refine y_callH (Y := mL_order) (n := 2) (as := [.ref q1, .int (ziv G q0 (x4 + 1).toNatClampNeg)]) (st := []) (pc' := 1469) hm dL_law__1466 kL_188 hL_order rfl rfl hdd hb (Nat.le_of_ble_eq_true rfl) (fun r G2 hz => ?_) hkx
  obtain ⟨y1, rfl, h⟩ := hk r G2 hz
  refine y_istore (pc' := 1471) dL_law__1469 (by decide) rfl ?_
  refine y_aload_n (pc' := 1472) dL_law__1471 rfl rfl ?_
  refine y_aload_n (pc' := 1473) dL_law__1472 rfl rfl ?_
  refine y_iload (pc' := 1475) dL_law__1473 rfl rfl ?_
  refine y_iconst (x := 1) (pc' := 1476) dL_law__1475 (by decide) rfl ?_
  refine y_iadd (pc' := 1477) dL_law__1476 rfl rfl ?_
  obtain ⟨h1, h2, h⟩ := h
  refine y_iald (pc' := 1478) dL_law__1477 rfl h1 h2 ?_
  obtain ⟨h1, h⟩ := h
  obtain ⟨d1, b1, Qz, hm, hdd, hb, hkx, hk⟩ := h
  refine y_callV (Y := mX12_order) (n := 1) (as := [.int (ziv G2 q0 (x4 + 1).toNatClampNeg)]) (st := []) (pc' := 1481) (ci := 13) (q := q2) hm dL_law__1478 kL_191 vX12_order rfl rfl (by decide) rfl h1 hdd hb (Nat.le_of_ble_eq_true rfl) (fun r G4 hz => ?_) hkx
  obtain ⟨rfl, h⟩ := hk r G4 hz
  refine y_aload_n (pc' := 1482) dL_law__1481 rfl rfl ?_
  obtain ⟨h1, h⟩ := h
  obtain ⟨d1, b1, Qz, hm, hdd, hb, hkx, hk⟩ := h
  refine y_callV (Y := mX12_thrown) (n := 0) (as := []) (st := []) (pc' := 1485) (ci := 13) (q := q2) hm dL_law__1482 kL_133 vX12_thrown rfl rfl (by decide) rfl h1 hdd hb (Nat.le_of_ble_eq_true rfl) (fun r G7 hz => ?_) hkx
  obtain ⟨y6, rfl, h⟩ := hk r G7 hz
  refine y_iload (pc' := 1487) dL_law__1485 rfl rfl ?_
  refine y_icmp_eq (pt := 1492) (pc' := 1490) dL_law__1487 (by decide) rfl (fun hc => ?_) (fun hc => ?_)
  · have h := h.1 hc
    refine y_goto (pc' := 2293) dL_law__1492 (by decide) ?_
    exact y_dr (ls' := [some (.ref q0), some (.ref q1), some (.ref q2), some (.ref q3), some (.int x4), none, none]) ⟨rfl, rfl, rfl, rfl, rfl, trivial⟩ h
  · have h := h.2 hc
    refine y_iconst (x := 0) (pc' := 1491) dL_law__1490 (by decide) rfl ?_
    exact y_zret (ty := .boolean) dL_law__1491 rfl (by decide) h
def wp_L_law__1495 (E : ZE) (l : Launch) (d b : Nat) (G0 : ZG) (Q : ZQ) (k : Nat) (q0 : Nat) (q1 : Nat) (q2 : Nat) (q3 : Nat) (x4 : Int32) (G : ZG) : Prop :=
  (zar G q0 0 ∨ zrd G q0 .int) ∧ vp_in (x4 + 1) (zln G q0) ∧
  xhI [(0, 9, 12, 13)] E l mL_blanks d [.ref q1, .int (ziv G q0 (x4 + 1).toNatClampNeg), .ref q3] G k (fun X G9 => Q (.inr X) G9) (fun y1 G2 k3 =>
  (zar G2 q0 0 ∨ zrd G2 q0 .int) ∧ vp_in (x4 + 1) (zln G2 q0) ∧
  zob G2 q2 13 ∧
  xcI E l mX12_blanks d [.ref q2, .int (ziv G2 q0 (x4 + 1).toNatClampNeg)] G2 k3 (fun X G9 => Q (.inr X) G9) (fun y4 G5 k6 =>
  zob G5 q2 13 ∧
  xcI E l mX12_thrown d [.ref q2] G5 k6 (fun X G9 => Q (.inr X) G9) (fun y7 G8 k9 =>
  ((y7 = y1 →
    ((¬ y1 = 0 →
      zWL E l mL_law_ d b G0 Q k9 2293 [some (.ref q0), some (.ref q1), some (.ref q2), some (.ref q3), some (.int x4), none, none] [] G8) ∧
    (¬ (¬ y1 = 0) →
      zar G8 q3 3 ∧ vp_in 0 (zln G8 q3) ∧
      (((lg_cmp ((ziv G8 q3 (0 : Int32).toNatClampNeg)).toInt64 (y4).toInt64) = 0 →
        zWL E l mL_law_ d b G0 Q k9 2293 [some (.ref q0), some (.ref q1), some (.ref q2), some (.ref q3), some (.int x4), none, none] [] G8) ∧
      (¬ ((lg_cmp ((ziv G8 q3 (0 : Int32).toNatClampNeg)).toInt64 (y4).toInt64) = 0) →
        Q (.inl (some (.int 0))) G8))))) ∧
  (¬ (y7 = y1) →
    Q (.inl (some (.int 0))) G8)))))
theorem wpt_L_law__1495 {E : ZE} {l : Launch} {d b : Nat} {G0 : ZG} {Q : ZQ} {k : Nat} {q0 : Nat} {q1 : Nat} {q2 : Nat} {q3 : Nat} {x4 : Int32} {G : ZG} (h : wp_L_law__1495 E l d b G0 Q k q0 q1 q2 q3 x4 G) : zWL E l mL_law_ d b G0 Q k 1495 [some (.ref q0), some (.ref q1), some (.ref q2), some (.ref q3), some (.int x4), none, none] [] G := by
  unfold wp_L_law__1495 at h
  refine y_aload_n (pc' := 1496) dL_law__1495 rfl rfl ?_
  refine y_aload_n (pc' := 1497) dL_law__1496 rfl rfl ?_
  refine y_iload (pc' := 1499) dL_law__1497 rfl rfl ?_
  refine y_iconst (x := 1) (pc' := 1500) dL_law__1499 (by decide) rfl ?_
  refine y_iadd (pc' := 1501) dL_law__1500 rfl rfl ?_
  obtain ⟨h1, h2, h⟩ := h
  refine y_iald (pc' := 1502) dL_law__1501 rfl h1 h2 ?_
  refine y_aload_n (pc' := 1503) dL_law__1502 rfl rfl ?_
  obtain ⟨d1, b1, Qz, hm, hdd, hb, hkx, hk⟩ := h
  refine y_callH (Y := mL_blanks) (n := 3) (as := [.ref q1, .int (ziv G q0 (x4 + 1).toNatClampNeg), .ref q3]) (st := []) (pc' := 1506) hm dL_law__1503 kL_192 hL_blanks rfl rfl hdd hb (Nat.le_of_ble_eq_true rfl) (fun r G2 hz => ?_) hkx
  obtain ⟨y1, rfl, h⟩ := hk r G2 hz
  refine y_istore (pc' := 1508) dL_law__1506 (by decide) rfl ?_
  refine y_aload_n (pc' := 1509) dL_law__1508 rfl rfl ?_
  refine y_aload_n (pc' := 1510) dL_law__1509 rfl rfl ?_
  refine y_iload (pc' := 1512) dL_law__1510 rfl rfl ?_
  refine y_iconst (x := 1) (pc' := 1513) dL_law__1512 (by decide) rfl ?_
  refine y_iadd (pc' := 1514) dL_law__1513 rfl rfl ?_
  obtain ⟨h1, h2, h⟩ := h
  refine y_iald (pc' := 1515) dL_law__1514 rfl h1 h2 ?_
  obtain ⟨h1, h⟩ := h
  obtain ⟨d1, b1, Qz, hm, hdd, hb, hkx, hk⟩ := h
  refine y_callV (Y := mX12_blanks) (n := 1) (as := [.int (ziv G2 q0 (x4 + 1).toNatClampNeg)]) (st := []) (pc' := 1518) (ci := 13) (q := q2) hm dL_law__1515 kL_194 vX12_blanks rfl rfl (by decide) rfl h1 hdd hb (Nat.le_of_ble_eq_true rfl) (fun r G5 hz => ?_) hkx
  obtain ⟨y4, rfl, h⟩ := hk r G5 hz
  refine y_istore (pc' := 1520) dL_law__1518 (by decide) rfl ?_
  refine y_aload_n (pc' := 1521) dL_law__1520 rfl rfl ?_
  obtain ⟨h1, h⟩ := h
  obtain ⟨d1, b1, Qz, hm, hdd, hb, hkx, hk⟩ := h
  refine y_callV (Y := mX12_thrown) (n := 0) (as := []) (st := []) (pc' := 1524) (ci := 13) (q := q2) hm dL_law__1521 kL_133 vX12_thrown rfl rfl (by decide) rfl h1 hdd hb (Nat.le_of_ble_eq_true rfl) (fun r G8 hz => ?_) hkx
  obtain ⟨y7, rfl, h⟩ := hk r G8 hz
  refine y_iload (pc' := 1526) dL_law__1524 rfl rfl ?_
  refine y_icmp_eq (pt := 1531) (pc' := 1529) dL_law__1526 (by decide) rfl (fun hc => ?_) (fun hc => ?_)
  · have h := h.1 hc
    refine y_iload (pc' := 1533) dL_law__1531 rfl rfl ?_
    refine y_if_ne (pt := 1548) (pc' := 1536) dL_law__1533 (by decide) rfl (fun hc => ?_) (fun hc => ?_)
    · have h := h.1 hc
      refine y_goto (pc' := 2293) dL_law__1548 (by decide) ?_
      exact y_dr (ls' := [some (.ref q0), some (.ref q1), some (.ref q2), some (.ref q3), some (.int x4), none, none]) ⟨rfl, rfl, rfl, rfl, rfl, trivial⟩ h
    · have h := h.2 hc
      refine y_aload_n (pc' := 1537) dL_law__1536 rfl rfl ?_
      refine y_iconst (x := 0) (pc' := 1538) dL_law__1537 (by decide) rfl ?_
      obtain ⟨h1, h2, h⟩ := h
      refine y_lald (pc' := 1539) dL_law__1538 rfl h1 h2 ?_
      refine y_iload (pc' := 1541) dL_law__1539 rfl rfl ?_
      refine y_i2l (pc' := 1542) dL_law__1541 rfl ?_
      refine y_lcmp (pc' := 1543) dL_law__1542 rfl rfl ?_
      refine y_if_eq (pt := 1548) (pc' := 1546) dL_law__1543 (by decide) rfl (fun hc => ?_) (fun hc => ?_)
      · have h := h.1 hc
        refine y_goto (pc' := 2293) dL_law__1548 (by decide) ?_
        exact y_dr (ls' := [some (.ref q0), some (.ref q1), some (.ref q2), some (.ref q3), some (.int x4), none, none]) ⟨rfl, rfl, rfl, rfl, rfl, trivial⟩ h
      · have h := h.2 hc
        refine y_iconst (x := 0) (pc' := 1547) dL_law__1546 (by decide) rfl ?_
        exact y_zret (ty := .boolean) dL_law__1547 rfl (by decide) h
  · have h := h.2 hc
    refine y_iconst (x := 0) (pc' := 1530) dL_law__1529 (by decide) rfl ?_
    exact y_zret (ty := .boolean) dL_law__1530 rfl (by decide) h
def wp_L_law__1551 (E : ZE) (l : Launch) (d b : Nat) (G0 : ZG) (Q : ZQ) (k : Nat) (q0 : Nat) (q1 : Nat) (q2 : Nat) (q3 : Nat) (x4 : Int32) (G : ZG) : Prop :=
  (zar G q0 0 ∨ zrd G q0 .int) ∧ vp_in (x4 + 1) (zln G q0) ∧
  (zar G q0 0 ∨ zrd G q0 .int) ∧ vp_in (x4 + 2) (zln G q0) ∧
  xhI [(0, 6, 9, 13)] E l mL_broken d [.ref q1, .int (ziv G q0 (x4 + 1).toNatClampNeg), .int (ziv G q0 (x4 + 2).toNatClampNeg)] G k (fun X G9 => Q (.inr X) G9) (fun y1 G2 k3 =>
  (zar G2 q0 0 ∨ zrd G2 q0 .int) ∧ vp_in (x4 + 1) (zln G2 q0) ∧
  (zar G2 q0 0 ∨ zrd G2 q0 .int) ∧ vp_in (x4 + 2) (zln G2 q0) ∧
  zob G2 q2 13 ∧
  xcV E l mX12_broken d [.ref q2, .int (ziv G2 q0 (x4 + 1).toNatClampNeg), .int (ziv G2 q0 (x4 + 2).toNatClampNeg)] G2 k3 (fun X G9 => Q (.inr X) G9) (fun G4 k5 =>
  zob G4 q2 13 ∧
  xcI E l mX12_thrown d [.ref q2] G4 k5 (fun X G9 => Q (.inr X) G9) (fun y6 G7 k8 =>
  ((y6 = y1 →
    zWL E l mL_law_ d b G0 Q k8 2293 [some (.ref q0), some (.ref q1), some (.ref q2), some (.ref q3), some (.int x4), none, none] [] G7) ∧
  (¬ (y6 = y1) →
    Q (.inl (some (.int 0))) G7)))))
theorem wpt_L_law__1551 {E : ZE} {l : Launch} {d b : Nat} {G0 : ZG} {Q : ZQ} {k : Nat} {q0 : Nat} {q1 : Nat} {q2 : Nat} {q3 : Nat} {x4 : Int32} {G : ZG} (h : wp_L_law__1551 E l d b G0 Q k q0 q1 q2 q3 x4 G) : zWL E l mL_law_ d b G0 Q k 1551 [some (.ref q0), some (.ref q1), some (.ref q2), some (.ref q3), some (.int x4), none, none] [] G := by
  unfold wp_L_law__1551 at h
  refine y_aload_n (pc' := 1552) dL_law__1551 rfl rfl ?_
  refine y_aload_n (pc' := 1553) dL_law__1552 rfl rfl ?_
  refine y_iload (pc' := 1555) dL_law__1553 rfl rfl ?_
  refine y_iconst (x := 1) (pc' := 1556) dL_law__1555 (by decide) rfl ?_
  refine y_iadd (pc' := 1557) dL_law__1556 rfl rfl ?_
  obtain ⟨h1, h2, h⟩ := h
  refine y_iald (pc' := 1558) dL_law__1557 rfl h1 h2 ?_
  refine y_aload_n (pc' := 1559) dL_law__1558 rfl rfl ?_
  refine y_iload (pc' := 1561) dL_law__1559 rfl rfl ?_
  refine y_iconst (x := 2) (pc' := 1562) dL_law__1561 (by decide) rfl ?_
  refine y_iadd (pc' := 1563) dL_law__1562 rfl rfl ?_
  obtain ⟨h1, h2, h⟩ := h
  refine y_iald (pc' := 1564) dL_law__1563 rfl h1 h2 ?_
  obtain ⟨d1, b1, Qz, hm, hdd, hb, hkx, hk⟩ := h
  refine y_callH (Y := mL_broken) (n := 3) (as := [.ref q1, .int (ziv G q0 (x4 + 1).toNatClampNeg), .int (ziv G q0 (x4 + 2).toNatClampNeg)]) (st := []) (pc' := 1567) hm dL_law__1564 kL_195 hL_broken rfl rfl hdd hb (Nat.le_of_ble_eq_true rfl) (fun r G2 hz => ?_) hkx
  obtain ⟨y1, rfl, h⟩ := hk r G2 hz
  refine y_istore (pc' := 1569) dL_law__1567 (by decide) rfl ?_
  refine y_aload_n (pc' := 1570) dL_law__1569 rfl rfl ?_
  refine y_aload_n (pc' := 1571) dL_law__1570 rfl rfl ?_
  refine y_iload (pc' := 1573) dL_law__1571 rfl rfl ?_
  refine y_iconst (x := 1) (pc' := 1574) dL_law__1573 (by decide) rfl ?_
  refine y_iadd (pc' := 1575) dL_law__1574 rfl rfl ?_
  obtain ⟨h1, h2, h⟩ := h
  refine y_iald (pc' := 1576) dL_law__1575 rfl h1 h2 ?_
  refine y_aload_n (pc' := 1577) dL_law__1576 rfl rfl ?_
  refine y_iload (pc' := 1579) dL_law__1577 rfl rfl ?_
  refine y_iconst (x := 2) (pc' := 1580) dL_law__1579 (by decide) rfl ?_
  refine y_iadd (pc' := 1581) dL_law__1580 rfl rfl ?_
  obtain ⟨h1, h2, h⟩ := h
  refine y_iald (pc' := 1582) dL_law__1581 rfl h1 h2 ?_
  obtain ⟨h1, h⟩ := h
  obtain ⟨d1, b1, Qz, hm, hdd, hb, hkx, hk⟩ := h
  refine y_callV (Y := mX12_broken) (n := 2) (as := [.int (ziv G2 q0 (x4 + 1).toNatClampNeg), .int (ziv G2 q0 (x4 + 2).toNatClampNeg)]) (st := []) (pc' := 1585) (ci := 13) (q := q2) hm dL_law__1582 kL_197 vX12_broken rfl rfl (by decide) rfl h1 hdd hb (Nat.le_of_ble_eq_true rfl) (fun r G4 hz => ?_) hkx
  obtain ⟨rfl, h⟩ := hk r G4 hz
  refine y_aload_n (pc' := 1586) dL_law__1585 rfl rfl ?_
  obtain ⟨h1, h⟩ := h
  obtain ⟨d1, b1, Qz, hm, hdd, hb, hkx, hk⟩ := h
  refine y_callV (Y := mX12_thrown) (n := 0) (as := []) (st := []) (pc' := 1589) (ci := 13) (q := q2) hm dL_law__1586 kL_133 vX12_thrown rfl rfl (by decide) rfl h1 hdd hb (Nat.le_of_ble_eq_true rfl) (fun r G7 hz => ?_) hkx
  obtain ⟨y6, rfl, h⟩ := hk r G7 hz
  refine y_iload (pc' := 1591) dL_law__1589 rfl rfl ?_
  refine y_icmp_eq (pt := 1596) (pc' := 1594) dL_law__1591 (by decide) rfl (fun hc => ?_) (fun hc => ?_)
  · have h := h.1 hc
    refine y_goto (pc' := 2293) dL_law__1596 (by decide) ?_
    exact y_dr (ls' := [some (.ref q0), some (.ref q1), some (.ref q2), some (.ref q3), some (.int x4), none, none]) ⟨rfl, rfl, rfl, rfl, rfl, trivial⟩ h
  · have h := h.2 hc
    refine y_iconst (x := 0) (pc' := 1595) dL_law__1594 (by decide) rfl ?_
    exact y_zret (ty := .boolean) dL_law__1595 rfl (by decide) h
def wp_L_law__1599 (E : ZE) (l : Launch) (d b : Nat) (G0 : ZG) (Q : ZQ) (k : Nat) (q0 : Nat) (q1 : Nat) (q2 : Nat) (q3 : Nat) (x4 : Int32) (G : ZG) : Prop :=
  (zar G q0 0 ∨ zrd G q0 .int) ∧ vp_in (x4 + 1) (zln G q0) ∧
  xhI [(0, 9, 12, 13)] E l mL_days d [.ref q1, .int (ziv G q0 (x4 + 1).toNatClampNeg), .ref q3] G k (fun X G9 => Q (.inr X) G9) (fun y1 G2 k3 =>
  (zar G2 q0 0 ∨ zrd G2 q0 .int) ∧ vp_in (x4 + 1) (zln G2 q0) ∧
  zob G2 q2 13 ∧
  xcI E l mX12_days d [.ref q2, .int (ziv G2 q0 (x4 + 1).toNatClampNeg)] G2 k3 (fun X G9 => Q (.inr X) G9) (fun y4 G5 k6 =>
  zob G5 q2 13 ∧
  xcI E l mX12_thrown d [.ref q2] G5 k6 (fun X G9 => Q (.inr X) G9) (fun y7 G8 k9 =>
  ((y7 = y1 →
    ((¬ y1 = 0 →
      zWL E l mL_law_ d b G0 Q k9 2293 [some (.ref q0), some (.ref q1), some (.ref q2), some (.ref q3), some (.int x4), none, none] [] G8) ∧
    (¬ (¬ y1 = 0) →
      zar G8 q3 3 ∧ vp_in 0 (zln G8 q3) ∧
      (((lg_cmp ((ziv G8 q3 (0 : Int32).toNatClampNeg)).toInt64 (y4).toInt64) = 0 →
        zWL E l mL_law_ d b G0 Q k9 2293 [some (.ref q0), some (.ref q1), some (.ref q2), some (.ref q3), some (.int x4), none, none] [] G8) ∧
      (¬ ((lg_cmp ((ziv G8 q3 (0 : Int32).toNatClampNeg)).toInt64 (y4).toInt64) = 0) →
        Q (.inl (some (.int 0))) G8))))) ∧
  (¬ (y7 = y1) →
    Q (.inl (some (.int 0))) G8)))))
theorem wpt_L_law__1599 {E : ZE} {l : Launch} {d b : Nat} {G0 : ZG} {Q : ZQ} {k : Nat} {q0 : Nat} {q1 : Nat} {q2 : Nat} {q3 : Nat} {x4 : Int32} {G : ZG} (h : wp_L_law__1599 E l d b G0 Q k q0 q1 q2 q3 x4 G) : zWL E l mL_law_ d b G0 Q k 1599 [some (.ref q0), some (.ref q1), some (.ref q2), some (.ref q3), some (.int x4), none, none] [] G := by
  unfold wp_L_law__1599 at h
  refine y_aload_n (pc' := 1600) dL_law__1599 rfl rfl ?_
  refine y_aload_n (pc' := 1601) dL_law__1600 rfl rfl ?_
  refine y_iload (pc' := 1603) dL_law__1601 rfl rfl ?_
  refine y_iconst (x := 1) (pc' := 1604) dL_law__1603 (by decide) rfl ?_
  refine y_iadd (pc' := 1605) dL_law__1604 rfl rfl ?_
  obtain ⟨h1, h2, h⟩ := h
  refine y_iald (pc' := 1606) dL_law__1605 rfl h1 h2 ?_
  refine y_aload_n (pc' := 1607) dL_law__1606 rfl rfl ?_
  obtain ⟨d1, b1, Qz, hm, hdd, hb, hkx, hk⟩ := h
  refine y_callH (Y := mL_days) (n := 3) (as := [.ref q1, .int (ziv G q0 (x4 + 1).toNatClampNeg), .ref q3]) (st := []) (pc' := 1610) hm dL_law__1607 kL_198 hL_days rfl rfl hdd hb (Nat.le_of_ble_eq_true rfl) (fun r G2 hz => ?_) hkx
  obtain ⟨y1, rfl, h⟩ := hk r G2 hz
  refine y_istore (pc' := 1612) dL_law__1610 (by decide) rfl ?_
  refine y_aload_n (pc' := 1613) dL_law__1612 rfl rfl ?_
  refine y_aload_n (pc' := 1614) dL_law__1613 rfl rfl ?_
  refine y_iload (pc' := 1616) dL_law__1614 rfl rfl ?_
  refine y_iconst (x := 1) (pc' := 1617) dL_law__1616 (by decide) rfl ?_
  refine y_iadd (pc' := 1618) dL_law__1617 rfl rfl ?_
  obtain ⟨h1, h2, h⟩ := h
  refine y_iald (pc' := 1619) dL_law__1618 rfl h1 h2 ?_
  obtain ⟨h1, h⟩ := h
  obtain ⟨d1, b1, Qz, hm, hdd, hb, hkx, hk⟩ := h
  refine y_callV (Y := mX12_days) (n := 1) (as := [.int (ziv G2 q0 (x4 + 1).toNatClampNeg)]) (st := []) (pc' := 1622) (ci := 13) (q := q2) hm dL_law__1619 kL_200 vX12_days rfl rfl (by decide) rfl h1 hdd hb (Nat.le_of_ble_eq_true rfl) (fun r G5 hz => ?_) hkx
  obtain ⟨y4, rfl, h⟩ := hk r G5 hz
  refine y_istore (pc' := 1624) dL_law__1622 (by decide) rfl ?_
  refine y_aload_n (pc' := 1625) dL_law__1624 rfl rfl ?_
  obtain ⟨h1, h⟩ := h
  obtain ⟨d1, b1, Qz, hm, hdd, hb, hkx, hk⟩ := h
  refine y_callV (Y := mX12_thrown) (n := 0) (as := []) (st := []) (pc' := 1628) (ci := 13) (q := q2) hm dL_law__1625 kL_133 vX12_thrown rfl rfl (by decide) rfl h1 hdd hb (Nat.le_of_ble_eq_true rfl) (fun r G8 hz => ?_) hkx
  obtain ⟨y7, rfl, h⟩ := hk r G8 hz
  refine y_iload (pc' := 1630) dL_law__1628 rfl rfl ?_
  refine y_icmp_eq (pt := 1635) (pc' := 1633) dL_law__1630 (by decide) rfl (fun hc => ?_) (fun hc => ?_)
  · have h := h.1 hc
    refine y_iload (pc' := 1637) dL_law__1635 rfl rfl ?_
    refine y_if_ne (pt := 1652) (pc' := 1640) dL_law__1637 (by decide) rfl (fun hc => ?_) (fun hc => ?_)
    · have h := h.1 hc
      refine y_goto (pc' := 2293) dL_law__1652 (by decide) ?_
      exact y_dr (ls' := [some (.ref q0), some (.ref q1), some (.ref q2), some (.ref q3), some (.int x4), none, none]) ⟨rfl, rfl, rfl, rfl, rfl, trivial⟩ h
    · have h := h.2 hc
      refine y_aload_n (pc' := 1641) dL_law__1640 rfl rfl ?_
      refine y_iconst (x := 0) (pc' := 1642) dL_law__1641 (by decide) rfl ?_
      obtain ⟨h1, h2, h⟩ := h
      refine y_lald (pc' := 1643) dL_law__1642 rfl h1 h2 ?_
      refine y_iload (pc' := 1645) dL_law__1643 rfl rfl ?_
      refine y_i2l (pc' := 1646) dL_law__1645 rfl ?_
      refine y_lcmp (pc' := 1647) dL_law__1646 rfl rfl ?_
      refine y_if_eq (pt := 1652) (pc' := 1650) dL_law__1647 (by decide) rfl (fun hc => ?_) (fun hc => ?_)
      · have h := h.1 hc
        refine y_goto (pc' := 2293) dL_law__1652 (by decide) ?_
        exact y_dr (ls' := [some (.ref q0), some (.ref q1), some (.ref q2), some (.ref q3), some (.int x4), none, none]) ⟨rfl, rfl, rfl, rfl, rfl, trivial⟩ h
      · have h := h.2 hc
        refine y_iconst (x := 0) (pc' := 1651) dL_law__1650 (by decide) rfl ?_
        exact y_zret (ty := .boolean) dL_law__1651 rfl (by decide) h
  · have h := h.2 hc
    refine y_iconst (x := 0) (pc' := 1634) dL_law__1633 (by decide) rfl ?_
    exact y_zret (ty := .boolean) dL_law__1634 rfl (by decide) h
def wp_L_law__1655 (E : ZE) (l : Launch) (d b : Nat) (G0 : ZG) (Q : ZQ) (k : Nat) (q0 : Nat) (q1 : Nat) (q2 : Nat) (q3 : Nat) (x4 : Int32) (G : ZG) : Prop :=
  (zar G q0 0 ∨ zrd G q0 .int) ∧ vp_in (x4 + 1) (zln G q0) ∧
  xhI [(0, 5, 8, 24), (0, 5, 11, 53)] E l mL_refuse d [.ref q1, .int (ziv G q0 (x4 + 1).toNatClampNeg)] G k (fun X G9 => Q (.inr X) G9) (fun y1 G2 k3 =>
  (zar G2 q0 0 ∨ zrd G2 q0 .int) ∧ vp_in (x4 + 1) (zln G2 q0) ∧
  zob G2 q2 13 ∧
  xcV E l mX12_refuse d [.ref q2, .int (ziv G2 q0 (x4 + 1).toNatClampNeg)] G2 k3 (fun X G9 => Q (.inr X) G9) (fun G4 k5 =>
  zob G4 q2 13 ∧
  xcI E l mX12_thrown d [.ref q2] G4 k5 (fun X G9 => Q (.inr X) G9) (fun y6 G7 k8 =>
  ((y6 = y1 →
    zWL E l mL_law_ d b G0 Q k8 2293 [some (.ref q0), some (.ref q1), some (.ref q2), some (.ref q3), some (.int x4), none, none] [] G7) ∧
  (¬ (y6 = y1) →
    Q (.inl (some (.int 0))) G7)))))
theorem wpt_L_law__1655 {E : ZE} {l : Launch} {d b : Nat} {G0 : ZG} {Q : ZQ} {k : Nat} {q0 : Nat} {q1 : Nat} {q2 : Nat} {q3 : Nat} {x4 : Int32} {G : ZG} (h : wp_L_law__1655 E l d b G0 Q k q0 q1 q2 q3 x4 G) : zWL E l mL_law_ d b G0 Q k 1655 [some (.ref q0), some (.ref q1), some (.ref q2), some (.ref q3), some (.int x4), none, none] [] G := by
  unfold wp_L_law__1655 at h
  refine y_aload_n (pc' := 1656) dL_law__1655 rfl rfl ?_
  refine y_aload_n (pc' := 1657) dL_law__1656 rfl rfl ?_
  refine y_iload (pc' := 1659) dL_law__1657 rfl rfl ?_
  refine y_iconst (x := 1) (pc' := 1660) dL_law__1659 (by decide) rfl ?_
  refine y_iadd (pc' := 1661) dL_law__1660 rfl rfl ?_
  obtain ⟨h1, h2, h⟩ := h
  refine y_iald (pc' := 1662) dL_law__1661 rfl h1 h2 ?_
  obtain ⟨d1, b1, Qz, hm, hdd, hb, hkx, hk⟩ := h
  refine y_callH (Y := mL_refuse) (n := 2) (as := [.ref q1, .int (ziv G q0 (x4 + 1).toNatClampNeg)]) (st := []) (pc' := 1665) hm dL_law__1662 kL_201 hL_refuse rfl rfl hdd hb (Nat.le_of_ble_eq_true rfl) (fun r G2 hz => ?_) hkx
  obtain ⟨y1, rfl, h⟩ := hk r G2 hz
  refine y_istore (pc' := 1667) dL_law__1665 (by decide) rfl ?_
  refine y_aload_n (pc' := 1668) dL_law__1667 rfl rfl ?_
  refine y_aload_n (pc' := 1669) dL_law__1668 rfl rfl ?_
  refine y_iload (pc' := 1671) dL_law__1669 rfl rfl ?_
  refine y_iconst (x := 1) (pc' := 1672) dL_law__1671 (by decide) rfl ?_
  refine y_iadd (pc' := 1673) dL_law__1672 rfl rfl ?_
  obtain ⟨h1, h2, h⟩ := h
  refine y_iald (pc' := 1674) dL_law__1673 rfl h1 h2 ?_
  obtain ⟨h1, h⟩ := h
  obtain ⟨d1, b1, Qz, hm, hdd, hb, hkx, hk⟩ := h
  refine y_callV (Y := mX12_refuse) (n := 1) (as := [.int (ziv G2 q0 (x4 + 1).toNatClampNeg)]) (st := []) (pc' := 1677) (ci := 13) (q := q2) hm dL_law__1674 kL_203 vX12_refuse rfl rfl (by decide) rfl h1 hdd hb (Nat.le_of_ble_eq_true rfl) (fun r G4 hz => ?_) hkx
  obtain ⟨rfl, h⟩ := hk r G4 hz
  refine y_aload_n (pc' := 1678) dL_law__1677 rfl rfl ?_
  obtain ⟨h1, h⟩ := h
  obtain ⟨d1, b1, Qz, hm, hdd, hb, hkx, hk⟩ := h
  refine y_callV (Y := mX12_thrown) (n := 0) (as := []) (st := []) (pc' := 1681) (ci := 13) (q := q2) hm dL_law__1678 kL_133 vX12_thrown rfl rfl (by decide) rfl h1 hdd hb (Nat.le_of_ble_eq_true rfl) (fun r G7 hz => ?_) hkx
  obtain ⟨y6, rfl, h⟩ := hk r G7 hz
  refine y_iload (pc' := 1683) dL_law__1681 rfl rfl ?_
  refine y_icmp_eq (pt := 1688) (pc' := 1686) dL_law__1683 (by decide) rfl (fun hc => ?_) (fun hc => ?_)
  · have h := h.1 hc
    refine y_goto (pc' := 2293) dL_law__1688 (by decide) ?_
    exact y_dr (ls' := [some (.ref q0), some (.ref q1), some (.ref q2), some (.ref q3), some (.int x4), none, none]) ⟨rfl, rfl, rfl, rfl, rfl, trivial⟩ h
  · have h := h.2 hc
    refine y_iconst (x := 0) (pc' := 1687) dL_law__1686 (by decide) rfl ?_
    exact y_zret (ty := .boolean) dL_law__1687 rfl (by decide) h
def wp_L_law__1691 (E : ZE) (l : Launch) (d b : Nat) (G0 : ZG) (Q : ZQ) (k : Nat) (q0 : Nat) (q1 : Nat) (q2 : Nat) (q3 : Nat) (x4 : Int32) (G : ZG) : Prop :=
  (zar G q0 0 ∨ zrd G q0 .int) ∧ vp_in (x4 + 1) (zln G q0) ∧
  xhI [(0, 5, 8, 24), (0, 5, 11, 53)] E l mL_lose d [.ref q1, .int (ziv G q0 (x4 + 1).toNatClampNeg)] G k (fun X G9 => Q (.inr X) G9) (fun y1 G2 k3 =>
  (zar G2 q0 0 ∨ zrd G2 q0 .int) ∧ vp_in (x4 + 1) (zln G2 q0) ∧
  zob G2 q2 13 ∧
  xcV E l mX12_lose d [.ref q2, .int (ziv G2 q0 (x4 + 1).toNatClampNeg)] G2 k3 (fun X G9 => Q (.inr X) G9) (fun G4 k5 =>
  zob G4 q2 13 ∧
  xcI E l mX12_thrown d [.ref q2] G4 k5 (fun X G9 => Q (.inr X) G9) (fun y6 G7 k8 =>
  ((y6 = y1 →
    zWL E l mL_law_ d b G0 Q k8 2293 [some (.ref q0), some (.ref q1), some (.ref q2), some (.ref q3), some (.int x4), none, none] [] G7) ∧
  (¬ (y6 = y1) →
    Q (.inl (some (.int 0))) G7)))))
theorem wpt_L_law__1691 {E : ZE} {l : Launch} {d b : Nat} {G0 : ZG} {Q : ZQ} {k : Nat} {q0 : Nat} {q1 : Nat} {q2 : Nat} {q3 : Nat} {x4 : Int32} {G : ZG} (h : wp_L_law__1691 E l d b G0 Q k q0 q1 q2 q3 x4 G) : zWL E l mL_law_ d b G0 Q k 1691 [some (.ref q0), some (.ref q1), some (.ref q2), some (.ref q3), some (.int x4), none, none] [] G := by
  unfold wp_L_law__1691 at h
  refine y_aload_n (pc' := 1692) dL_law__1691 rfl rfl ?_
  refine y_aload_n (pc' := 1693) dL_law__1692 rfl rfl ?_
  refine y_iload (pc' := 1695) dL_law__1693 rfl rfl ?_
  refine y_iconst (x := 1) (pc' := 1696) dL_law__1695 (by decide) rfl ?_
  refine y_iadd (pc' := 1697) dL_law__1696 rfl rfl ?_
  obtain ⟨h1, h2, h⟩ := h
  refine y_iald (pc' := 1698) dL_law__1697 rfl h1 h2 ?_
  obtain ⟨d1, b1, Qz, hm, hdd, hb, hkx, hk⟩ := h
  refine y_callH (Y := mL_lose) (n := 2) (as := [.ref q1, .int (ziv G q0 (x4 + 1).toNatClampNeg)]) (st := []) (pc' := 1701) hm dL_law__1698 kL_204 hL_lose rfl rfl hdd hb (Nat.le_of_ble_eq_true rfl) (fun r G2 hz => ?_) hkx
  obtain ⟨y1, rfl, h⟩ := hk r G2 hz
  refine y_istore (pc' := 1703) dL_law__1701 (by decide) rfl ?_
  refine y_aload_n (pc' := 1704) dL_law__1703 rfl rfl ?_
  refine y_aload_n (pc' := 1705) dL_law__1704 rfl rfl ?_
  refine y_iload (pc' := 1707) dL_law__1705 rfl rfl ?_
  refine y_iconst (x := 1) (pc' := 1708) dL_law__1707 (by decide) rfl ?_
  refine y_iadd (pc' := 1709) dL_law__1708 rfl rfl ?_
  obtain ⟨h1, h2, h⟩ := h
  refine y_iald (pc' := 1710) dL_law__1709 rfl h1 h2 ?_
  obtain ⟨h1, h⟩ := h
  obtain ⟨d1, b1, Qz, hm, hdd, hb, hkx, hk⟩ := h
  refine y_callV (Y := mX12_lose) (n := 1) (as := [.int (ziv G2 q0 (x4 + 1).toNatClampNeg)]) (st := []) (pc' := 1713) (ci := 13) (q := q2) hm dL_law__1710 kL_206 vX12_lose rfl rfl (by decide) rfl h1 hdd hb (Nat.le_of_ble_eq_true rfl) (fun r G4 hz => ?_) hkx
  obtain ⟨rfl, h⟩ := hk r G4 hz
  refine y_aload_n (pc' := 1714) dL_law__1713 rfl rfl ?_
  obtain ⟨h1, h⟩ := h
  obtain ⟨d1, b1, Qz, hm, hdd, hb, hkx, hk⟩ := h
  refine y_callV (Y := mX12_thrown) (n := 0) (as := []) (st := []) (pc' := 1717) (ci := 13) (q := q2) hm dL_law__1714 kL_133 vX12_thrown rfl rfl (by decide) rfl h1 hdd hb (Nat.le_of_ble_eq_true rfl) (fun r G7 hz => ?_) hkx
  obtain ⟨y6, rfl, h⟩ := hk r G7 hz
  refine y_iload (pc' := 1719) dL_law__1717 rfl rfl ?_
  refine y_icmp_eq (pt := 1724) (pc' := 1722) dL_law__1719 (by decide) rfl (fun hc => ?_) (fun hc => ?_)
  · have h := h.1 hc
    refine y_goto (pc' := 2293) dL_law__1724 (by decide) ?_
    exact y_dr (ls' := [some (.ref q0), some (.ref q1), some (.ref q2), some (.ref q3), some (.int x4), none, none]) ⟨rfl, rfl, rfl, rfl, rfl, trivial⟩ h
  · have h := h.2 hc
    refine y_iconst (x := 0) (pc' := 1723) dL_law__1722 (by decide) rfl ?_
    exact y_zret (ty := .boolean) dL_law__1723 rfl (by decide) h
def wp_L_law__1727 (E : ZE) (l : Launch) (d b : Nat) (G0 : ZG) (Q : ZQ) (k : Nat) (q0 : Nat) (q1 : Nat) (q2 : Nat) (q3 : Nat) (x4 : Int32) (G : ZG) : Prop :=
  (zar G q0 0 ∨ zrd G q0 .int) ∧ vp_in (x4 + 1) (zln G q0) ∧
  xhI [(0, 5, 8, 24), (0, 5, 11, 53)] E l mL_again d [.ref q1, .int (ziv G q0 (x4 + 1).toNatClampNeg)] G k (fun X G9 => Q (.inr X) G9) (fun y1 G2 k3 =>
  (zar G2 q0 0 ∨ zrd G2 q0 .int) ∧ vp_in (x4 + 1) (zln G2 q0) ∧
  zob G2 q2 13 ∧
  xcV E l mX12_again d [.ref q2, .int (ziv G2 q0 (x4 + 1).toNatClampNeg)] G2 k3 (fun X G9 => Q (.inr X) G9) (fun G4 k5 =>
  zob G4 q2 13 ∧
  xcI E l mX12_thrown d [.ref q2] G4 k5 (fun X G9 => Q (.inr X) G9) (fun y6 G7 k8 =>
  ((y6 = y1 →
    zWL E l mL_law_ d b G0 Q k8 2293 [some (.ref q0), some (.ref q1), some (.ref q2), some (.ref q3), some (.int x4), none, none] [] G7) ∧
  (¬ (y6 = y1) →
    Q (.inl (some (.int 0))) G7)))))
theorem wpt_L_law__1727 {E : ZE} {l : Launch} {d b : Nat} {G0 : ZG} {Q : ZQ} {k : Nat} {q0 : Nat} {q1 : Nat} {q2 : Nat} {q3 : Nat} {x4 : Int32} {G : ZG} (h : wp_L_law__1727 E l d b G0 Q k q0 q1 q2 q3 x4 G) : zWL E l mL_law_ d b G0 Q k 1727 [some (.ref q0), some (.ref q1), some (.ref q2), some (.ref q3), some (.int x4), none, none] [] G := by
  unfold wp_L_law__1727 at h
  refine y_aload_n (pc' := 1728) dL_law__1727 rfl rfl ?_
  refine y_aload_n (pc' := 1729) dL_law__1728 rfl rfl ?_
  refine y_iload (pc' := 1731) dL_law__1729 rfl rfl ?_
  refine y_iconst (x := 1) (pc' := 1732) dL_law__1731 (by decide) rfl ?_
  refine y_iadd (pc' := 1733) dL_law__1732 rfl rfl ?_
  obtain ⟨h1, h2, h⟩ := h
  refine y_iald (pc' := 1734) dL_law__1733 rfl h1 h2 ?_
  obtain ⟨d1, b1, Qz, hm, hdd, hb, hkx, hk⟩ := h
  refine y_callH (Y := mL_again) (n := 2) (as := [.ref q1, .int (ziv G q0 (x4 + 1).toNatClampNeg)]) (st := []) (pc' := 1737) hm dL_law__1734 kL_207 hL_again rfl rfl hdd hb (Nat.le_of_ble_eq_true rfl) (fun r G2 hz => ?_) hkx
  obtain ⟨y1, rfl, h⟩ := hk r G2 hz
  refine y_istore (pc' := 1739) dL_law__1737 (by decide) rfl ?_
  refine y_aload_n (pc' := 1740) dL_law__1739 rfl rfl ?_
  refine y_aload_n (pc' := 1741) dL_law__1740 rfl rfl ?_
  refine y_iload (pc' := 1743) dL_law__1741 rfl rfl ?_
  refine y_iconst (x := 1) (pc' := 1744) dL_law__1743 (by decide) rfl ?_
  refine y_iadd (pc' := 1745) dL_law__1744 rfl rfl ?_
  obtain ⟨h1, h2, h⟩ := h
  refine y_iald (pc' := 1746) dL_law__1745 rfl h1 h2 ?_
  obtain ⟨h1, h⟩ := h
  obtain ⟨d1, b1, Qz, hm, hdd, hb, hkx, hk⟩ := h
  refine y_callV (Y := mX12_again) (n := 1) (as := [.int (ziv G2 q0 (x4 + 1).toNatClampNeg)]) (st := []) (pc' := 1749) (ci := 13) (q := q2) hm dL_law__1746 kL_209 vX12_again rfl rfl (by decide) rfl h1 hdd hb (Nat.le_of_ble_eq_true rfl) (fun r G4 hz => ?_) hkx
  obtain ⟨rfl, h⟩ := hk r G4 hz
  refine y_aload_n (pc' := 1750) dL_law__1749 rfl rfl ?_
  obtain ⟨h1, h⟩ := h
  obtain ⟨d1, b1, Qz, hm, hdd, hb, hkx, hk⟩ := h
  refine y_callV (Y := mX12_thrown) (n := 0) (as := []) (st := []) (pc' := 1753) (ci := 13) (q := q2) hm dL_law__1750 kL_133 vX12_thrown rfl rfl (by decide) rfl h1 hdd hb (Nat.le_of_ble_eq_true rfl) (fun r G7 hz => ?_) hkx
  obtain ⟨y6, rfl, h⟩ := hk r G7 hz
  refine y_iload (pc' := 1755) dL_law__1753 rfl rfl ?_
  refine y_icmp_eq (pt := 1760) (pc' := 1758) dL_law__1755 (by decide) rfl (fun hc => ?_) (fun hc => ?_)
  · have h := h.1 hc
    refine y_goto (pc' := 2293) dL_law__1760 (by decide) ?_
    exact y_dr (ls' := [some (.ref q0), some (.ref q1), some (.ref q2), some (.ref q3), some (.int x4), none, none]) ⟨rfl, rfl, rfl, rfl, rfl, trivial⟩ h
  · have h := h.2 hc
    refine y_iconst (x := 0) (pc' := 1759) dL_law__1758 (by decide) rfl ?_
    exact y_zret (ty := .boolean) dL_law__1759 rfl (by decide) h
def wp_L_law__1763 (E : ZE) (l : Launch) (d b : Nat) (G0 : ZG) (Q : ZQ) (k : Nat) (q0 : Nat) (q1 : Nat) (q2 : Nat) (q3 : Nat) (x4 : Int32) (G : ZG) : Prop :=
  (zar G q0 0 ∨ zrd G q0 .int) ∧ vp_in (x4 + 1) (zln G q0) ∧
  (zar G q0 0 ∨ zrd G q0 .int) ∧ vp_in (x4 + 2) (zln G q0) ∧
  xhI [(0, 10, 13, 24), (0, 10, 17, 44)] E l mL_led d [.ref q1, .int (ziv G q0 (x4 + 1).toNatClampNeg), .int (ziv G q0 (x4 + 2).toNatClampNeg), .ref q3] G k (fun X G9 => Q (.inr X) G9) (fun y1 G2 k3 =>
  (zar G2 q0 0 ∨ zrd G2 q0 .int) ∧ vp_in (x4 + 1) (zln G2 q0) ∧
  (zar G2 q0 0 ∨ zrd G2 q0 .int) ∧ vp_in (x4 + 2) (zln G2 q0) ∧
  zob G2 q2 13 ∧
  xcI E l mX12_led d [.ref q2, .int (ziv G2 q0 (x4 + 1).toNatClampNeg), .int (ziv G2 q0 (x4 + 2).toNatClampNeg)] G2 k3 (fun X G9 => Q (.inr X) G9) (fun y4 G5 k6 =>
  zob G5 q2 13 ∧
  xcI E l mX12_thrown d [.ref q2] G5 k6 (fun X G9 => Q (.inr X) G9) (fun y7 G8 k9 =>
  ((y7 = y1 →
    ((¬ y1 = 0 →
      zWL E l mL_law_ d b G0 Q k9 2293 [some (.ref q0), some (.ref q1), some (.ref q2), some (.ref q3), some (.int x4), none, none] [] G8) ∧
    (¬ (¬ y1 = 0) →
      zar G8 q3 3 ∧ vp_in 0 (zln G8 q3) ∧
      (((lg_cmp ((ziv G8 q3 (0 : Int32).toNatClampNeg)).toInt64 (y4).toInt64) = 0 →
        zWL E l mL_law_ d b G0 Q k9 2293 [some (.ref q0), some (.ref q1), some (.ref q2), some (.ref q3), some (.int x4), none, none] [] G8) ∧
      (¬ ((lg_cmp ((ziv G8 q3 (0 : Int32).toNatClampNeg)).toInt64 (y4).toInt64) = 0) →
        Q (.inl (some (.int 0))) G8))))) ∧
  (¬ (y7 = y1) →
    Q (.inl (some (.int 0))) G8)))))
theorem wpt_L_law__1763 {E : ZE} {l : Launch} {d b : Nat} {G0 : ZG} {Q : ZQ} {k : Nat} {q0 : Nat} {q1 : Nat} {q2 : Nat} {q3 : Nat} {x4 : Int32} {G : ZG} (h : wp_L_law__1763 E l d b G0 Q k q0 q1 q2 q3 x4 G) : zWL E l mL_law_ d b G0 Q k 1763 [some (.ref q0), some (.ref q1), some (.ref q2), some (.ref q3), some (.int x4), none, none] [] G := by
  unfold wp_L_law__1763 at h
  refine y_aload_n (pc' := 1764) dL_law__1763 rfl rfl ?_
  refine y_aload_n (pc' := 1765) dL_law__1764 rfl rfl ?_
  refine y_iload (pc' := 1767) dL_law__1765 rfl rfl ?_
  refine y_iconst (x := 1) (pc' := 1768) dL_law__1767 (by decide) rfl ?_
  refine y_iadd (pc' := 1769) dL_law__1768 rfl rfl ?_
  obtain ⟨h1, h2, h⟩ := h
  refine y_iald (pc' := 1770) dL_law__1769 rfl h1 h2 ?_
  refine y_aload_n (pc' := 1771) dL_law__1770 rfl rfl ?_
  refine y_iload (pc' := 1773) dL_law__1771 rfl rfl ?_
  refine y_iconst (x := 2) (pc' := 1774) dL_law__1773 (by decide) rfl ?_
  refine y_iadd (pc' := 1775) dL_law__1774 rfl rfl ?_
  obtain ⟨h1, h2, h⟩ := h
  refine y_iald (pc' := 1776) dL_law__1775 rfl h1 h2 ?_
  refine y_aload_n (pc' := 1777) dL_law__1776 rfl rfl ?_
  obtain ⟨d1, b1, Qz, hm, hdd, hb, hkx, hk⟩ := h
  refine y_callH (Y := mL_led) (n := 4) (as := [.ref q1, .int (ziv G q0 (x4 + 1).toNatClampNeg), .int (ziv G q0 (x4 + 2).toNatClampNeg), .ref q3]) (st := []) (pc' := 1780) hm dL_law__1777 kL_210 hL_led rfl rfl hdd hb (Nat.le_of_ble_eq_true rfl) (fun r G2 hz => ?_) hkx
  obtain ⟨y1, rfl, h⟩ := hk r G2 hz
  refine y_istore (pc' := 1782) dL_law__1780 (by decide) rfl ?_
  refine y_aload_n (pc' := 1783) dL_law__1782 rfl rfl ?_
  refine y_aload_n (pc' := 1784) dL_law__1783 rfl rfl ?_
  refine y_iload (pc' := 1786) dL_law__1784 rfl rfl ?_
  refine y_iconst (x := 1) (pc' := 1787) dL_law__1786 (by decide) rfl ?_
  refine y_iadd (pc' := 1788) dL_law__1787 rfl rfl ?_
  obtain ⟨h1, h2, h⟩ := h
  refine y_iald (pc' := 1789) dL_law__1788 rfl h1 h2 ?_
  refine y_aload_n (pc' := 1790) dL_law__1789 rfl rfl ?_
  refine y_iload (pc' := 1792) dL_law__1790 rfl rfl ?_
  refine y_iconst (x := 2) (pc' := 1793) dL_law__1792 (by decide) rfl ?_
  refine y_iadd (pc' := 1794) dL_law__1793 rfl rfl ?_
  obtain ⟨h1, h2, h⟩ := h
  refine y_iald (pc' := 1795) dL_law__1794 rfl h1 h2 ?_
  obtain ⟨h1, h⟩ := h
  obtain ⟨d1, b1, Qz, hm, hdd, hb, hkx, hk⟩ := h
  refine y_callV (Y := mX12_led) (n := 2) (as := [.int (ziv G2 q0 (x4 + 1).toNatClampNeg), .int (ziv G2 q0 (x4 + 2).toNatClampNeg)]) (st := []) (pc' := 1798) (ci := 13) (q := q2) hm dL_law__1795 kL_212 vX12_led rfl rfl (by decide) rfl h1 hdd hb (Nat.le_of_ble_eq_true rfl) (fun r G5 hz => ?_) hkx
  obtain ⟨y4, rfl, h⟩ := hk r G5 hz
  refine y_istore (pc' := 1800) dL_law__1798 (by decide) rfl ?_
  refine y_aload_n (pc' := 1801) dL_law__1800 rfl rfl ?_
  obtain ⟨h1, h⟩ := h
  obtain ⟨d1, b1, Qz, hm, hdd, hb, hkx, hk⟩ := h
  refine y_callV (Y := mX12_thrown) (n := 0) (as := []) (st := []) (pc' := 1804) (ci := 13) (q := q2) hm dL_law__1801 kL_133 vX12_thrown rfl rfl (by decide) rfl h1 hdd hb (Nat.le_of_ble_eq_true rfl) (fun r G8 hz => ?_) hkx
  obtain ⟨y7, rfl, h⟩ := hk r G8 hz
  refine y_iload (pc' := 1806) dL_law__1804 rfl rfl ?_
  refine y_icmp_eq (pt := 1811) (pc' := 1809) dL_law__1806 (by decide) rfl (fun hc => ?_) (fun hc => ?_)
  · have h := h.1 hc
    refine y_iload (pc' := 1813) dL_law__1811 rfl rfl ?_
    refine y_if_ne (pt := 1828) (pc' := 1816) dL_law__1813 (by decide) rfl (fun hc => ?_) (fun hc => ?_)
    · have h := h.1 hc
      refine y_goto (pc' := 2293) dL_law__1828 (by decide) ?_
      exact y_dr (ls' := [some (.ref q0), some (.ref q1), some (.ref q2), some (.ref q3), some (.int x4), none, none]) ⟨rfl, rfl, rfl, rfl, rfl, trivial⟩ h
    · have h := h.2 hc
      refine y_aload_n (pc' := 1817) dL_law__1816 rfl rfl ?_
      refine y_iconst (x := 0) (pc' := 1818) dL_law__1817 (by decide) rfl ?_
      obtain ⟨h1, h2, h⟩ := h
      refine y_lald (pc' := 1819) dL_law__1818 rfl h1 h2 ?_
      refine y_iload (pc' := 1821) dL_law__1819 rfl rfl ?_
      refine y_i2l (pc' := 1822) dL_law__1821 rfl ?_
      refine y_lcmp (pc' := 1823) dL_law__1822 rfl rfl ?_
      refine y_if_eq (pt := 1828) (pc' := 1826) dL_law__1823 (by decide) rfl (fun hc => ?_) (fun hc => ?_)
      · have h := h.1 hc
        refine y_goto (pc' := 2293) dL_law__1828 (by decide) ?_
        exact y_dr (ls' := [some (.ref q0), some (.ref q1), some (.ref q2), some (.ref q3), some (.int x4), none, none]) ⟨rfl, rfl, rfl, rfl, rfl, trivial⟩ h
      · have h := h.2 hc
        refine y_iconst (x := 0) (pc' := 1827) dL_law__1826 (by decide) rfl ?_
        exact y_zret (ty := .boolean) dL_law__1827 rfl (by decide) h
  · have h := h.2 hc
    refine y_iconst (x := 0) (pc' := 1810) dL_law__1809 (by decide) rfl ?_
    exact y_zret (ty := .boolean) dL_law__1810 rfl (by decide) h
def wp_L_law__1831 (E : ZE) (l : Launch) (d b : Nat) (G0 : ZG) (Q : ZQ) (k : Nat) (q0 : Nat) (q1 : Nat) (q2 : Nat) (q3 : Nat) (x4 : Int32) (G : ZG) : Prop :=
  (zar G q0 0 ∨ zrd G q0 .int) ∧ vp_in (x4 + 1) (zln G q0) ∧
  xhI [(0, 9, 12, 24)] E l mL_queue d [.ref q1, .int (ziv G q0 (x4 + 1).toNatClampNeg), .ref q3] G k (fun X G9 => Q (.inr X) G9) (fun y1 G2 k3 =>
  (zar G2 q0 0 ∨ zrd G2 q0 .int) ∧ vp_in (x4 + 1) (zln G2 q0) ∧
  zob G2 q2 13 ∧
  xcI E l mX12_queue d [.ref q2, .int (ziv G2 q0 (x4 + 1).toNatClampNeg)] G2 k3 (fun X G9 => Q (.inr X) G9) (fun y4 G5 k6 =>
  zob G5 q2 13 ∧
  xcI E l mX12_thrown d [.ref q2] G5 k6 (fun X G9 => Q (.inr X) G9) (fun y7 G8 k9 =>
  ((y7 = y1 →
    ((¬ y1 = 0 →
      zWL E l mL_law_ d b G0 Q k9 2293 [some (.ref q0), some (.ref q1), some (.ref q2), some (.ref q3), some (.int x4), none, none] [] G8) ∧
    (¬ (¬ y1 = 0) →
      zar G8 q3 3 ∧ vp_in 0 (zln G8 q3) ∧
      (((lg_cmp ((ziv G8 q3 (0 : Int32).toNatClampNeg)).toInt64 (y4).toInt64) = 0 →
        zWL E l mL_law_ d b G0 Q k9 2293 [some (.ref q0), some (.ref q1), some (.ref q2), some (.ref q3), some (.int x4), none, none] [] G8) ∧
      (¬ ((lg_cmp ((ziv G8 q3 (0 : Int32).toNatClampNeg)).toInt64 (y4).toInt64) = 0) →
        Q (.inl (some (.int 0))) G8))))) ∧
  (¬ (y7 = y1) →
    Q (.inl (some (.int 0))) G8)))))
theorem wpt_L_law__1831 {E : ZE} {l : Launch} {d b : Nat} {G0 : ZG} {Q : ZQ} {k : Nat} {q0 : Nat} {q1 : Nat} {q2 : Nat} {q3 : Nat} {x4 : Int32} {G : ZG} (h : wp_L_law__1831 E l d b G0 Q k q0 q1 q2 q3 x4 G) : zWL E l mL_law_ d b G0 Q k 1831 [some (.ref q0), some (.ref q1), some (.ref q2), some (.ref q3), some (.int x4), none, none] [] G := by
  unfold wp_L_law__1831 at h
  refine y_aload_n (pc' := 1832) dL_law__1831 rfl rfl ?_
  refine y_aload_n (pc' := 1833) dL_law__1832 rfl rfl ?_
  refine y_iload (pc' := 1835) dL_law__1833 rfl rfl ?_
  refine y_iconst (x := 1) (pc' := 1836) dL_law__1835 (by decide) rfl ?_
  refine y_iadd (pc' := 1837) dL_law__1836 rfl rfl ?_
  obtain ⟨h1, h2, h⟩ := h
  refine y_iald (pc' := 1838) dL_law__1837 rfl h1 h2 ?_
  refine y_aload_n (pc' := 1839) dL_law__1838 rfl rfl ?_
  obtain ⟨d1, b1, Qz, hm, hdd, hb, hkx, hk⟩ := h
  refine y_callH (Y := mL_queue) (n := 3) (as := [.ref q1, .int (ziv G q0 (x4 + 1).toNatClampNeg), .ref q3]) (st := []) (pc' := 1842) hm dL_law__1839 kL_213 hL_queue rfl rfl hdd hb (Nat.le_of_ble_eq_true rfl) (fun r G2 hz => ?_) hkx
  obtain ⟨y1, rfl, h⟩ := hk r G2 hz
  refine y_istore (pc' := 1844) dL_law__1842 (by decide) rfl ?_
  refine y_aload_n (pc' := 1845) dL_law__1844 rfl rfl ?_
  refine y_aload_n (pc' := 1846) dL_law__1845 rfl rfl ?_
  refine y_iload (pc' := 1848) dL_law__1846 rfl rfl ?_
  refine y_iconst (x := 1) (pc' := 1849) dL_law__1848 (by decide) rfl ?_
  refine y_iadd (pc' := 1850) dL_law__1849 rfl rfl ?_
  obtain ⟨h1, h2, h⟩ := h
  refine y_iald (pc' := 1851) dL_law__1850 rfl h1 h2 ?_
  obtain ⟨h1, h⟩ := h
  obtain ⟨d1, b1, Qz, hm, hdd, hb, hkx, hk⟩ := h
  refine y_callV (Y := mX12_queue) (n := 1) (as := [.int (ziv G2 q0 (x4 + 1).toNatClampNeg)]) (st := []) (pc' := 1854) (ci := 13) (q := q2) hm dL_law__1851 kL_215 vX12_queue rfl rfl (by decide) rfl h1 hdd hb (Nat.le_of_ble_eq_true rfl) (fun r G5 hz => ?_) hkx
  obtain ⟨y4, rfl, h⟩ := hk r G5 hz
  refine y_istore (pc' := 1856) dL_law__1854 (by decide) rfl ?_
  refine y_aload_n (pc' := 1857) dL_law__1856 rfl rfl ?_
  obtain ⟨h1, h⟩ := h
  obtain ⟨d1, b1, Qz, hm, hdd, hb, hkx, hk⟩ := h
  refine y_callV (Y := mX12_thrown) (n := 0) (as := []) (st := []) (pc' := 1860) (ci := 13) (q := q2) hm dL_law__1857 kL_133 vX12_thrown rfl rfl (by decide) rfl h1 hdd hb (Nat.le_of_ble_eq_true rfl) (fun r G8 hz => ?_) hkx
  obtain ⟨y7, rfl, h⟩ := hk r G8 hz
  refine y_iload (pc' := 1862) dL_law__1860 rfl rfl ?_
  refine y_icmp_eq (pt := 1867) (pc' := 1865) dL_law__1862 (by decide) rfl (fun hc => ?_) (fun hc => ?_)
  · have h := h.1 hc
    refine y_iload (pc' := 1869) dL_law__1867 rfl rfl ?_
    refine y_if_ne (pt := 1884) (pc' := 1872) dL_law__1869 (by decide) rfl (fun hc => ?_) (fun hc => ?_)
    · have h := h.1 hc
      refine y_goto (pc' := 2293) dL_law__1884 (by decide) ?_
      exact y_dr (ls' := [some (.ref q0), some (.ref q1), some (.ref q2), some (.ref q3), some (.int x4), none, none]) ⟨rfl, rfl, rfl, rfl, rfl, trivial⟩ h
    · have h := h.2 hc
      refine y_aload_n (pc' := 1873) dL_law__1872 rfl rfl ?_
      refine y_iconst (x := 0) (pc' := 1874) dL_law__1873 (by decide) rfl ?_
      obtain ⟨h1, h2, h⟩ := h
      refine y_lald (pc' := 1875) dL_law__1874 rfl h1 h2 ?_
      refine y_iload (pc' := 1877) dL_law__1875 rfl rfl ?_
      refine y_i2l (pc' := 1878) dL_law__1877 rfl ?_
      refine y_lcmp (pc' := 1879) dL_law__1878 rfl rfl ?_
      refine y_if_eq (pt := 1884) (pc' := 1882) dL_law__1879 (by decide) rfl (fun hc => ?_) (fun hc => ?_)
      · have h := h.1 hc
        refine y_goto (pc' := 2293) dL_law__1884 (by decide) ?_
        exact y_dr (ls' := [some (.ref q0), some (.ref q1), some (.ref q2), some (.ref q3), some (.int x4), none, none]) ⟨rfl, rfl, rfl, rfl, rfl, trivial⟩ h
      · have h := h.2 hc
        refine y_iconst (x := 0) (pc' := 1883) dL_law__1882 (by decide) rfl ?_
        exact y_zret (ty := .boolean) dL_law__1883 rfl (by decide) h
  · have h := h.2 hc
    refine y_iconst (x := 0) (pc' := 1866) dL_law__1865 (by decide) rfl ?_
    exact y_zret (ty := .boolean) dL_law__1866 rfl (by decide) h
def wp_L_law__1887 (E : ZE) (l : Launch) (d b : Nat) (G0 : ZG) (Q : ZQ) (k : Nat) (q0 : Nat) (q1 : Nat) (q2 : Nat) (q3 : Nat) (x4 : Int32) (G : ZG) : Prop :=
  (zar G q0 0 ∨ zrd G q0 .int) ∧ vp_in (x4 + 1) (zln G q0) ∧
  xhI [(0, 9, 12, 24)] E l mL_ahead d [.ref q1, .int (ziv G q0 (x4 + 1).toNatClampNeg), .ref q3] G k (fun X G9 => Q (.inr X) G9) (fun y1 G2 k3 =>
  (zar G2 q0 0 ∨ zrd G2 q0 .int) ∧ vp_in (x4 + 1) (zln G2 q0) ∧
  zob G2 q2 13 ∧
  xcI E l mX12_ahead d [.ref q2, .int (ziv G2 q0 (x4 + 1).toNatClampNeg)] G2 k3 (fun X G9 => Q (.inr X) G9) (fun y4 G5 k6 =>
  zob G5 q2 13 ∧
  xcI E l mX12_thrown d [.ref q2] G5 k6 (fun X G9 => Q (.inr X) G9) (fun y7 G8 k9 =>
  ((y7 = y1 →
    ((¬ y1 = 0 →
      zWL E l mL_law_ d b G0 Q k9 2293 [some (.ref q0), some (.ref q1), some (.ref q2), some (.ref q3), some (.int x4), none, none] [] G8) ∧
    (¬ (¬ y1 = 0) →
      zar G8 q3 3 ∧ vp_in 0 (zln G8 q3) ∧
      (((lg_cmp ((ziv G8 q3 (0 : Int32).toNatClampNeg)).toInt64 (y4).toInt64) = 0 →
        zWL E l mL_law_ d b G0 Q k9 2293 [some (.ref q0), some (.ref q1), some (.ref q2), some (.ref q3), some (.int x4), none, none] [] G8) ∧
      (¬ ((lg_cmp ((ziv G8 q3 (0 : Int32).toNatClampNeg)).toInt64 (y4).toInt64) = 0) →
        Q (.inl (some (.int 0))) G8))))) ∧
  (¬ (y7 = y1) →
    Q (.inl (some (.int 0))) G8)))))
theorem wpt_L_law__1887 {E : ZE} {l : Launch} {d b : Nat} {G0 : ZG} {Q : ZQ} {k : Nat} {q0 : Nat} {q1 : Nat} {q2 : Nat} {q3 : Nat} {x4 : Int32} {G : ZG} (h : wp_L_law__1887 E l d b G0 Q k q0 q1 q2 q3 x4 G) : zWL E l mL_law_ d b G0 Q k 1887 [some (.ref q0), some (.ref q1), some (.ref q2), some (.ref q3), some (.int x4), none, none] [] G := by
  unfold wp_L_law__1887 at h
  refine y_aload_n (pc' := 1888) dL_law__1887 rfl rfl ?_
  refine y_aload_n (pc' := 1889) dL_law__1888 rfl rfl ?_
  refine y_iload (pc' := 1891) dL_law__1889 rfl rfl ?_
  refine y_iconst (x := 1) (pc' := 1892) dL_law__1891 (by decide) rfl ?_
  refine y_iadd (pc' := 1893) dL_law__1892 rfl rfl ?_
  obtain ⟨h1, h2, h⟩ := h
  refine y_iald (pc' := 1894) dL_law__1893 rfl h1 h2 ?_
  refine y_aload_n (pc' := 1895) dL_law__1894 rfl rfl ?_
  obtain ⟨d1, b1, Qz, hm, hdd, hb, hkx, hk⟩ := h
  refine y_callH (Y := mL_ahead) (n := 3) (as := [.ref q1, .int (ziv G q0 (x4 + 1).toNatClampNeg), .ref q3]) (st := []) (pc' := 1898) hm dL_law__1895 kL_216 hL_ahead rfl rfl hdd hb (Nat.le_of_ble_eq_true rfl) (fun r G2 hz => ?_) hkx
  obtain ⟨y1, rfl, h⟩ := hk r G2 hz
  refine y_istore (pc' := 1900) dL_law__1898 (by decide) rfl ?_
  refine y_aload_n (pc' := 1901) dL_law__1900 rfl rfl ?_
  refine y_aload_n (pc' := 1902) dL_law__1901 rfl rfl ?_
  refine y_iload (pc' := 1904) dL_law__1902 rfl rfl ?_
  refine y_iconst (x := 1) (pc' := 1905) dL_law__1904 (by decide) rfl ?_
  refine y_iadd (pc' := 1906) dL_law__1905 rfl rfl ?_
  obtain ⟨h1, h2, h⟩ := h
  refine y_iald (pc' := 1907) dL_law__1906 rfl h1 h2 ?_
  obtain ⟨h1, h⟩ := h
  obtain ⟨d1, b1, Qz, hm, hdd, hb, hkx, hk⟩ := h
  refine y_callV (Y := mX12_ahead) (n := 1) (as := [.int (ziv G2 q0 (x4 + 1).toNatClampNeg)]) (st := []) (pc' := 1910) (ci := 13) (q := q2) hm dL_law__1907 kL_218 vX12_ahead rfl rfl (by decide) rfl h1 hdd hb (Nat.le_of_ble_eq_true rfl) (fun r G5 hz => ?_) hkx
  obtain ⟨y4, rfl, h⟩ := hk r G5 hz
  refine y_istore (pc' := 1912) dL_law__1910 (by decide) rfl ?_
  refine y_aload_n (pc' := 1913) dL_law__1912 rfl rfl ?_
  obtain ⟨h1, h⟩ := h
  obtain ⟨d1, b1, Qz, hm, hdd, hb, hkx, hk⟩ := h
  refine y_callV (Y := mX12_thrown) (n := 0) (as := []) (st := []) (pc' := 1916) (ci := 13) (q := q2) hm dL_law__1913 kL_133 vX12_thrown rfl rfl (by decide) rfl h1 hdd hb (Nat.le_of_ble_eq_true rfl) (fun r G8 hz => ?_) hkx
  obtain ⟨y7, rfl, h⟩ := hk r G8 hz
  refine y_iload (pc' := 1918) dL_law__1916 rfl rfl ?_
  refine y_icmp_eq (pt := 1923) (pc' := 1921) dL_law__1918 (by decide) rfl (fun hc => ?_) (fun hc => ?_)
  · have h := h.1 hc
    refine y_iload (pc' := 1925) dL_law__1923 rfl rfl ?_
    refine y_if_ne (pt := 1940) (pc' := 1928) dL_law__1925 (by decide) rfl (fun hc => ?_) (fun hc => ?_)
    · have h := h.1 hc
      refine y_goto (pc' := 2293) dL_law__1940 (by decide) ?_
      exact y_dr (ls' := [some (.ref q0), some (.ref q1), some (.ref q2), some (.ref q3), some (.int x4), none, none]) ⟨rfl, rfl, rfl, rfl, rfl, trivial⟩ h
    · have h := h.2 hc
      refine y_aload_n (pc' := 1929) dL_law__1928 rfl rfl ?_
      refine y_iconst (x := 0) (pc' := 1930) dL_law__1929 (by decide) rfl ?_
      obtain ⟨h1, h2, h⟩ := h
      refine y_lald (pc' := 1931) dL_law__1930 rfl h1 h2 ?_
      refine y_iload (pc' := 1933) dL_law__1931 rfl rfl ?_
      refine y_i2l (pc' := 1934) dL_law__1933 rfl ?_
      refine y_lcmp (pc' := 1935) dL_law__1934 rfl rfl ?_
      refine y_if_eq (pt := 1940) (pc' := 1938) dL_law__1935 (by decide) rfl (fun hc => ?_) (fun hc => ?_)
      · have h := h.1 hc
        refine y_goto (pc' := 2293) dL_law__1940 (by decide) ?_
        exact y_dr (ls' := [some (.ref q0), some (.ref q1), some (.ref q2), some (.ref q3), some (.int x4), none, none]) ⟨rfl, rfl, rfl, rfl, rfl, trivial⟩ h
      · have h := h.2 hc
        refine y_iconst (x := 0) (pc' := 1939) dL_law__1938 (by decide) rfl ?_
        exact y_zret (ty := .boolean) dL_law__1939 rfl (by decide) h
  · have h := h.2 hc
    refine y_iconst (x := 0) (pc' := 1922) dL_law__1921 (by decide) rfl ?_
    exact y_zret (ty := .boolean) dL_law__1922 rfl (by decide) h
def wp_L_law__1943 (E : ZE) (l : Launch) (d b : Nat) (G0 : ZG) (Q : ZQ) (k : Nat) (q0 : Nat) (q1 : Nat) (q2 : Nat) (q3 : Nat) (x4 : Int32) (G : ZG) : Prop :=
  (zar G q0 0 ∨ zrd G q0 .int) ∧ vp_in (x4 + 1) (zln G q0) ∧
  (zar G q0 0 ∨ zrd G q0 .int) ∧ vp_in (x4 + 2) (zln G q0) ∧
  xhI [(0, 10, 13, 24), (0, 10, 17, 44)] E l mL_booklet d [.ref q1, .int (ziv G q0 (x4 + 1).toNatClampNeg), .int (ziv G q0 (x4 + 2).toNatClampNeg), .ref q3] G k (fun X G9 => Q (.inr X) G9) (fun y1 G2 k3 =>
  (zar G2 q0 0 ∨ zrd G2 q0 .int) ∧ vp_in (x4 + 1) (zln G2 q0) ∧
  (zar G2 q0 0 ∨ zrd G2 q0 .int) ∧ vp_in (x4 + 2) (zln G2 q0) ∧
  zob G2 q2 13 ∧
  xcI E l mX12_booklet d [.ref q2, .int (ziv G2 q0 (x4 + 1).toNatClampNeg), .int (ziv G2 q0 (x4 + 2).toNatClampNeg)] G2 k3 (fun X G9 => Q (.inr X) G9) (fun y4 G5 k6 =>
  zob G5 q2 13 ∧
  xcI E l mX12_thrown d [.ref q2] G5 k6 (fun X G9 => Q (.inr X) G9) (fun y7 G8 k9 =>
  ((y7 = y1 →
    ((¬ y1 = 0 →
      zWL E l mL_law_ d b G0 Q k9 2293 [some (.ref q0), some (.ref q1), some (.ref q2), some (.ref q3), some (.int x4), none, none] [] G8) ∧
    (¬ (¬ y1 = 0) →
      zar G8 q3 3 ∧ vp_in 0 (zln G8 q3) ∧
      (((lg_cmp ((ziv G8 q3 (0 : Int32).toNatClampNeg)).toInt64 (y4).toInt64) = 0 →
        zWL E l mL_law_ d b G0 Q k9 2293 [some (.ref q0), some (.ref q1), some (.ref q2), some (.ref q3), some (.int x4), none, none] [] G8) ∧
      (¬ ((lg_cmp ((ziv G8 q3 (0 : Int32).toNatClampNeg)).toInt64 (y4).toInt64) = 0) →
        Q (.inl (some (.int 0))) G8))))) ∧
  (¬ (y7 = y1) →
    Q (.inl (some (.int 0))) G8)))))
theorem wpt_L_law__1943 {E : ZE} {l : Launch} {d b : Nat} {G0 : ZG} {Q : ZQ} {k : Nat} {q0 : Nat} {q1 : Nat} {q2 : Nat} {q3 : Nat} {x4 : Int32} {G : ZG} (h : wp_L_law__1943 E l d b G0 Q k q0 q1 q2 q3 x4 G) : zWL E l mL_law_ d b G0 Q k 1943 [some (.ref q0), some (.ref q1), some (.ref q2), some (.ref q3), some (.int x4), none, none] [] G := by
  unfold wp_L_law__1943 at h
  refine y_aload_n (pc' := 1944) dL_law__1943 rfl rfl ?_
  refine y_aload_n (pc' := 1945) dL_law__1944 rfl rfl ?_
  refine y_iload (pc' := 1947) dL_law__1945 rfl rfl ?_
  refine y_iconst (x := 1) (pc' := 1948) dL_law__1947 (by decide) rfl ?_
  refine y_iadd (pc' := 1949) dL_law__1948 rfl rfl ?_
  obtain ⟨h1, h2, h⟩ := h
  refine y_iald (pc' := 1950) dL_law__1949 rfl h1 h2 ?_
  refine y_aload_n (pc' := 1951) dL_law__1950 rfl rfl ?_
  refine y_iload (pc' := 1953) dL_law__1951 rfl rfl ?_
  refine y_iconst (x := 2) (pc' := 1954) dL_law__1953 (by decide) rfl ?_
  refine y_iadd (pc' := 1955) dL_law__1954 rfl rfl ?_
  obtain ⟨h1, h2, h⟩ := h
  refine y_iald (pc' := 1956) dL_law__1955 rfl h1 h2 ?_
  refine y_aload_n (pc' := 1957) dL_law__1956 rfl rfl ?_
  obtain ⟨d1, b1, Qz, hm, hdd, hb, hkx, hk⟩ := h
  refine y_callH (Y := mL_booklet) (n := 4) (as := [.ref q1, .int (ziv G q0 (x4 + 1).toNatClampNeg), .int (ziv G q0 (x4 + 2).toNatClampNeg), .ref q3]) (st := []) (pc' := 1960) hm dL_law__1957 kL_219 hL_booklet rfl rfl hdd hb (Nat.le_of_ble_eq_true rfl) (fun r G2 hz => ?_) hkx
  obtain ⟨y1, rfl, h⟩ := hk r G2 hz
  refine y_istore (pc' := 1962) dL_law__1960 (by decide) rfl ?_
  refine y_aload_n (pc' := 1963) dL_law__1962 rfl rfl ?_
  refine y_aload_n (pc' := 1964) dL_law__1963 rfl rfl ?_
  refine y_iload (pc' := 1966) dL_law__1964 rfl rfl ?_
  refine y_iconst (x := 1) (pc' := 1967) dL_law__1966 (by decide) rfl ?_
  refine y_iadd (pc' := 1968) dL_law__1967 rfl rfl ?_
  obtain ⟨h1, h2, h⟩ := h
  refine y_iald (pc' := 1969) dL_law__1968 rfl h1 h2 ?_
  refine y_aload_n (pc' := 1970) dL_law__1969 rfl rfl ?_
  refine y_iload (pc' := 1972) dL_law__1970 rfl rfl ?_
  refine y_iconst (x := 2) (pc' := 1973) dL_law__1972 (by decide) rfl ?_
  refine y_iadd (pc' := 1974) dL_law__1973 rfl rfl ?_
  obtain ⟨h1, h2, h⟩ := h
  refine y_iald (pc' := 1975) dL_law__1974 rfl h1 h2 ?_
  obtain ⟨h1, h⟩ := h
  obtain ⟨d1, b1, Qz, hm, hdd, hb, hkx, hk⟩ := h
  refine y_callV (Y := mX12_booklet) (n := 2) (as := [.int (ziv G2 q0 (x4 + 1).toNatClampNeg), .int (ziv G2 q0 (x4 + 2).toNatClampNeg)]) (st := []) (pc' := 1978) (ci := 13) (q := q2) hm dL_law__1975 kL_221 vX12_booklet rfl rfl (by decide) rfl h1 hdd hb (Nat.le_of_ble_eq_true rfl) (fun r G5 hz => ?_) hkx
  obtain ⟨y4, rfl, h⟩ := hk r G5 hz
  refine y_istore (pc' := 1980) dL_law__1978 (by decide) rfl ?_
  refine y_aload_n (pc' := 1981) dL_law__1980 rfl rfl ?_
  obtain ⟨h1, h⟩ := h
  obtain ⟨d1, b1, Qz, hm, hdd, hb, hkx, hk⟩ := h
  refine y_callV (Y := mX12_thrown) (n := 0) (as := []) (st := []) (pc' := 1984) (ci := 13) (q := q2) hm dL_law__1981 kL_133 vX12_thrown rfl rfl (by decide) rfl h1 hdd hb (Nat.le_of_ble_eq_true rfl) (fun r G8 hz => ?_) hkx
  obtain ⟨y7, rfl, h⟩ := hk r G8 hz
  refine y_iload (pc' := 1986) dL_law__1984 rfl rfl ?_
  refine y_icmp_eq (pt := 1991) (pc' := 1989) dL_law__1986 (by decide) rfl (fun hc => ?_) (fun hc => ?_)
  · have h := h.1 hc
    refine y_iload (pc' := 1993) dL_law__1991 rfl rfl ?_
    refine y_if_ne (pt := 2008) (pc' := 1996) dL_law__1993 (by decide) rfl (fun hc => ?_) (fun hc => ?_)
    · have h := h.1 hc
      refine y_goto (pc' := 2293) dL_law__2008 (by decide) ?_
      exact y_dr (ls' := [some (.ref q0), some (.ref q1), some (.ref q2), some (.ref q3), some (.int x4), none, none]) ⟨rfl, rfl, rfl, rfl, rfl, trivial⟩ h
    · have h := h.2 hc
      refine y_aload_n (pc' := 1997) dL_law__1996 rfl rfl ?_
      refine y_iconst (x := 0) (pc' := 1998) dL_law__1997 (by decide) rfl ?_
      obtain ⟨h1, h2, h⟩ := h
      refine y_lald (pc' := 1999) dL_law__1998 rfl h1 h2 ?_
      refine y_iload (pc' := 2001) dL_law__1999 rfl rfl ?_
      refine y_i2l (pc' := 2002) dL_law__2001 rfl ?_
      refine y_lcmp (pc' := 2003) dL_law__2002 rfl rfl ?_
      refine y_if_eq (pt := 2008) (pc' := 2006) dL_law__2003 (by decide) rfl (fun hc => ?_) (fun hc => ?_)
      · have h := h.1 hc
        refine y_goto (pc' := 2293) dL_law__2008 (by decide) ?_
        exact y_dr (ls' := [some (.ref q0), some (.ref q1), some (.ref q2), some (.ref q3), some (.int x4), none, none]) ⟨rfl, rfl, rfl, rfl, rfl, trivial⟩ h
      · have h := h.2 hc
        refine y_iconst (x := 0) (pc' := 2007) dL_law__2006 (by decide) rfl ?_
        exact y_zret (ty := .boolean) dL_law__2007 rfl (by decide) h
  · have h := h.2 hc
    refine y_iconst (x := 0) (pc' := 1990) dL_law__1989 (by decide) rfl ?_
    exact y_zret (ty := .boolean) dL_law__1990 rfl (by decide) h
def wp_L_law__2011 (E : ZE) (l : Launch) (d b : Nat) (G0 : ZG) (Q : ZQ) (k : Nat) (q0 : Nat) (q1 : Nat) (q2 : Nat) (q3 : Nat) (x4 : Int32) (G : ZG) : Prop :=
  (zar G q0 0 ∨ zrd G q0 .int) ∧ vp_in (x4 + 1) (zln G q0) ∧
  (zar G q0 0 ∨ zrd G q0 .int) ∧ vp_in (x4 + 2) (zln G q0) ∧
  xhI [(0, 10, 13, 24)] E l mL_valid d [.ref q1, .int (ziv G q0 (x4 + 1).toNatClampNeg), .int (ziv G q0 (x4 + 2).toNatClampNeg), .ref q3] G k (fun X G9 => Q (.inr X) G9) (fun y1 G2 k3 =>
  (zar G2 q0 0 ∨ zrd G2 q0 .int) ∧ vp_in (x4 + 1) (zln G2 q0) ∧
  (zar G2 q0 0 ∨ zrd G2 q0 .int) ∧ vp_in (x4 + 2) (zln G2 q0) ∧
  zob G2 q2 13 ∧
  xcI E l mX12_valid d [.ref q2, .int (ziv G2 q0 (x4 + 1).toNatClampNeg), .int (ziv G2 q0 (x4 + 2).toNatClampNeg)] G2 k3 (fun X G9 => Q (.inr X) G9) (fun y4 G5 k6 =>
  zob G5 q2 13 ∧
  xcI E l mX12_thrown d [.ref q2] G5 k6 (fun X G9 => Q (.inr X) G9) (fun y7 G8 k9 =>
  ((y7 = y1 →
    ((¬ y1 = 0 →
      zWL E l mL_law_ d b G0 Q k9 2293 [some (.ref q0), some (.ref q1), some (.ref q2), some (.ref q3), some (.int x4), none, none] [] G8) ∧
    (¬ (¬ y1 = 0) →
      zar G8 q3 3 ∧ vp_in 0 (zln G8 q3) ∧
      (((lg_cmp ((ziv G8 q3 (0 : Int32).toNatClampNeg)).toInt64 (y4).toInt64) = 0 →
        zWL E l mL_law_ d b G0 Q k9 2293 [some (.ref q0), some (.ref q1), some (.ref q2), some (.ref q3), some (.int x4), none, none] [] G8) ∧
      (¬ ((lg_cmp ((ziv G8 q3 (0 : Int32).toNatClampNeg)).toInt64 (y4).toInt64) = 0) →
        Q (.inl (some (.int 0))) G8))))) ∧
  (¬ (y7 = y1) →
    Q (.inl (some (.int 0))) G8)))))
theorem wpt_L_law__2011 {E : ZE} {l : Launch} {d b : Nat} {G0 : ZG} {Q : ZQ} {k : Nat} {q0 : Nat} {q1 : Nat} {q2 : Nat} {q3 : Nat} {x4 : Int32} {G : ZG} (h : wp_L_law__2011 E l d b G0 Q k q0 q1 q2 q3 x4 G) : zWL E l mL_law_ d b G0 Q k 2011 [some (.ref q0), some (.ref q1), some (.ref q2), some (.ref q3), some (.int x4), none, none] [] G := by
  unfold wp_L_law__2011 at h
  refine y_aload_n (pc' := 2012) dL_law__2011 rfl rfl ?_
  refine y_aload_n (pc' := 2013) dL_law__2012 rfl rfl ?_
  refine y_iload (pc' := 2015) dL_law__2013 rfl rfl ?_
  refine y_iconst (x := 1) (pc' := 2016) dL_law__2015 (by decide) rfl ?_
  refine y_iadd (pc' := 2017) dL_law__2016 rfl rfl ?_
  obtain ⟨h1, h2, h⟩ := h
  refine y_iald (pc' := 2018) dL_law__2017 rfl h1 h2 ?_
  refine y_aload_n (pc' := 2019) dL_law__2018 rfl rfl ?_
  refine y_iload (pc' := 2021) dL_law__2019 rfl rfl ?_
  refine y_iconst (x := 2) (pc' := 2022) dL_law__2021 (by decide) rfl ?_
  refine y_iadd (pc' := 2023) dL_law__2022 rfl rfl ?_
  obtain ⟨h1, h2, h⟩ := h
  refine y_iald (pc' := 2024) dL_law__2023 rfl h1 h2 ?_
  refine y_aload_n (pc' := 2025) dL_law__2024 rfl rfl ?_
  obtain ⟨d1, b1, Qz, hm, hdd, hb, hkx, hk⟩ := h
  refine y_callH (Y := mL_valid) (n := 4) (as := [.ref q1, .int (ziv G q0 (x4 + 1).toNatClampNeg), .int (ziv G q0 (x4 + 2).toNatClampNeg), .ref q3]) (st := []) (pc' := 2028) hm dL_law__2025 kL_222 hL_valid rfl rfl hdd hb (Nat.le_of_ble_eq_true rfl) (fun r G2 hz => ?_) hkx
  obtain ⟨y1, rfl, h⟩ := hk r G2 hz
  refine y_istore (pc' := 2030) dL_law__2028 (by decide) rfl ?_
  refine y_aload_n (pc' := 2031) dL_law__2030 rfl rfl ?_
  refine y_aload_n (pc' := 2032) dL_law__2031 rfl rfl ?_
  refine y_iload (pc' := 2034) dL_law__2032 rfl rfl ?_
  refine y_iconst (x := 1) (pc' := 2035) dL_law__2034 (by decide) rfl ?_
  refine y_iadd (pc' := 2036) dL_law__2035 rfl rfl ?_
  obtain ⟨h1, h2, h⟩ := h
  refine y_iald (pc' := 2037) dL_law__2036 rfl h1 h2 ?_
  refine y_aload_n (pc' := 2038) dL_law__2037 rfl rfl ?_
  refine y_iload (pc' := 2040) dL_law__2038 rfl rfl ?_
  refine y_iconst (x := 2) (pc' := 2041) dL_law__2040 (by decide) rfl ?_
  refine y_iadd (pc' := 2042) dL_law__2041 rfl rfl ?_
  obtain ⟨h1, h2, h⟩ := h
  refine y_iald (pc' := 2043) dL_law__2042 rfl h1 h2 ?_
  obtain ⟨h1, h⟩ := h
  obtain ⟨d1, b1, Qz, hm, hdd, hb, hkx, hk⟩ := h
  refine y_callV (Y := mX12_valid) (n := 2) (as := [.int (ziv G2 q0 (x4 + 1).toNatClampNeg), .int (ziv G2 q0 (x4 + 2).toNatClampNeg)]) (st := []) (pc' := 2046) (ci := 13) (q := q2) hm dL_law__2043 kL_224 vX12_valid rfl rfl (by decide) rfl h1 hdd hb (Nat.le_of_ble_eq_true rfl) (fun r G5 hz => ?_) hkx
  obtain ⟨y4, rfl, h⟩ := hk r G5 hz
  refine y_istore (pc' := 2048) dL_law__2046 (by decide) rfl ?_
  refine y_aload_n (pc' := 2049) dL_law__2048 rfl rfl ?_
  obtain ⟨h1, h⟩ := h
  obtain ⟨d1, b1, Qz, hm, hdd, hb, hkx, hk⟩ := h
  refine y_callV (Y := mX12_thrown) (n := 0) (as := []) (st := []) (pc' := 2052) (ci := 13) (q := q2) hm dL_law__2049 kL_133 vX12_thrown rfl rfl (by decide) rfl h1 hdd hb (Nat.le_of_ble_eq_true rfl) (fun r G8 hz => ?_) hkx
  obtain ⟨y7, rfl, h⟩ := hk r G8 hz
  refine y_iload (pc' := 2054) dL_law__2052 rfl rfl ?_
  refine y_icmp_eq (pt := 2059) (pc' := 2057) dL_law__2054 (by decide) rfl (fun hc => ?_) (fun hc => ?_)
  · have h := h.1 hc
    refine y_iload (pc' := 2061) dL_law__2059 rfl rfl ?_
    refine y_if_ne (pt := 2076) (pc' := 2064) dL_law__2061 (by decide) rfl (fun hc => ?_) (fun hc => ?_)
    · have h := h.1 hc
      refine y_goto (pc' := 2293) dL_law__2076 (by decide) ?_
      exact y_dr (ls' := [some (.ref q0), some (.ref q1), some (.ref q2), some (.ref q3), some (.int x4), none, none]) ⟨rfl, rfl, rfl, rfl, rfl, trivial⟩ h
    · have h := h.2 hc
      refine y_aload_n (pc' := 2065) dL_law__2064 rfl rfl ?_
      refine y_iconst (x := 0) (pc' := 2066) dL_law__2065 (by decide) rfl ?_
      obtain ⟨h1, h2, h⟩ := h
      refine y_lald (pc' := 2067) dL_law__2066 rfl h1 h2 ?_
      refine y_iload (pc' := 2069) dL_law__2067 rfl rfl ?_
      refine y_i2l (pc' := 2070) dL_law__2069 rfl ?_
      refine y_lcmp (pc' := 2071) dL_law__2070 rfl rfl ?_
      refine y_if_eq (pt := 2076) (pc' := 2074) dL_law__2071 (by decide) rfl (fun hc => ?_) (fun hc => ?_)
      · have h := h.1 hc
        refine y_goto (pc' := 2293) dL_law__2076 (by decide) ?_
        exact y_dr (ls' := [some (.ref q0), some (.ref q1), some (.ref q2), some (.ref q3), some (.int x4), none, none]) ⟨rfl, rfl, rfl, rfl, rfl, trivial⟩ h
      · have h := h.2 hc
        refine y_iconst (x := 0) (pc' := 2075) dL_law__2074 (by decide) rfl ?_
        exact y_zret (ty := .boolean) dL_law__2075 rfl (by decide) h
  · have h := h.2 hc
    refine y_iconst (x := 0) (pc' := 2058) dL_law__2057 (by decide) rfl ?_
    exact y_zret (ty := .boolean) dL_law__2058 rfl (by decide) h
def wp_L_law__2079 (E : ZE) (l : Launch) (d b : Nat) (G0 : ZG) (Q : ZQ) (k : Nat) (q0 : Nat) (q1 : Nat) (q2 : Nat) (q3 : Nat) (x4 : Int32) (G : ZG) : Prop :=
  (zar G q0 0 ∨ zrd G q0 .int) ∧ vp_in (x4 + 1) (zln G q0) ∧
  (zar G q0 0 ∨ zrd G q0 .int) ∧ vp_in (x4 + 2) (zln G q0) ∧
  xhI [(0, 10, 13, 13)] E l mL_missed d [.ref q1, .int (ziv G q0 (x4 + 1).toNatClampNeg), .int (ziv G q0 (x4 + 2).toNatClampNeg), .ref q3] G k (fun X G9 => Q (.inr X) G9) (fun y1 G2 k3 =>
  (zar G2 q0 0 ∨ zrd G2 q0 .int) ∧ vp_in (x4 + 1) (zln G2 q0) ∧
  (zar G2 q0 0 ∨ zrd G2 q0 .int) ∧ vp_in (x4 + 2) (zln G2 q0) ∧
  zob G2 q2 13 ∧
  xcI E l mX12_missed d [.ref q2, .int (ziv G2 q0 (x4 + 1).toNatClampNeg), .int (ziv G2 q0 (x4 + 2).toNatClampNeg)] G2 k3 (fun X G9 => Q (.inr X) G9) (fun y4 G5 k6 =>
  zob G5 q2 13 ∧
  xcI E l mX12_thrown d [.ref q2] G5 k6 (fun X G9 => Q (.inr X) G9) (fun y7 G8 k9 =>
  ((y7 = y1 →
    ((¬ y1 = 0 →
      zWL E l mL_law_ d b G0 Q k9 2293 [some (.ref q0), some (.ref q1), some (.ref q2), some (.ref q3), some (.int x4), none, none] [] G8) ∧
    (¬ (¬ y1 = 0) →
      zar G8 q3 3 ∧ vp_in 0 (zln G8 q3) ∧
      (((lg_cmp ((ziv G8 q3 (0 : Int32).toNatClampNeg)).toInt64 (y4).toInt64) = 0 →
        zWL E l mL_law_ d b G0 Q k9 2293 [some (.ref q0), some (.ref q1), some (.ref q2), some (.ref q3), some (.int x4), none, none] [] G8) ∧
      (¬ ((lg_cmp ((ziv G8 q3 (0 : Int32).toNatClampNeg)).toInt64 (y4).toInt64) = 0) →
        Q (.inl (some (.int 0))) G8))))) ∧
  (¬ (y7 = y1) →
    Q (.inl (some (.int 0))) G8)))))
theorem wpt_L_law__2079 {E : ZE} {l : Launch} {d b : Nat} {G0 : ZG} {Q : ZQ} {k : Nat} {q0 : Nat} {q1 : Nat} {q2 : Nat} {q3 : Nat} {x4 : Int32} {G : ZG} (h : wp_L_law__2079 E l d b G0 Q k q0 q1 q2 q3 x4 G) : zWL E l mL_law_ d b G0 Q k 2079 [some (.ref q0), some (.ref q1), some (.ref q2), some (.ref q3), some (.int x4), none, none] [] G := by
  unfold wp_L_law__2079 at h
  refine y_aload_n (pc' := 2080) dL_law__2079 rfl rfl ?_
  refine y_aload_n (pc' := 2081) dL_law__2080 rfl rfl ?_
  refine y_iload (pc' := 2083) dL_law__2081 rfl rfl ?_
  refine y_iconst (x := 1) (pc' := 2084) dL_law__2083 (by decide) rfl ?_
  refine y_iadd (pc' := 2085) dL_law__2084 rfl rfl ?_
  obtain ⟨h1, h2, h⟩ := h
  refine y_iald (pc' := 2086) dL_law__2085 rfl h1 h2 ?_
  refine y_aload_n (pc' := 2087) dL_law__2086 rfl rfl ?_
  refine y_iload (pc' := 2089) dL_law__2087 rfl rfl ?_
  refine y_iconst (x := 2) (pc' := 2090) dL_law__2089 (by decide) rfl ?_
  refine y_iadd (pc' := 2091) dL_law__2090 rfl rfl ?_
  obtain ⟨h1, h2, h⟩ := h
  refine y_iald (pc' := 2092) dL_law__2091 rfl h1 h2 ?_
  refine y_aload_n (pc' := 2093) dL_law__2092 rfl rfl ?_
  obtain ⟨d1, b1, Qz, hm, hdd, hb, hkx, hk⟩ := h
  refine y_callH (Y := mL_missed) (n := 4) (as := [.ref q1, .int (ziv G q0 (x4 + 1).toNatClampNeg), .int (ziv G q0 (x4 + 2).toNatClampNeg), .ref q3]) (st := []) (pc' := 2096) hm dL_law__2093 kL_225 hL_missed rfl rfl hdd hb (Nat.le_of_ble_eq_true rfl) (fun r G2 hz => ?_) hkx
  obtain ⟨y1, rfl, h⟩ := hk r G2 hz
  refine y_istore (pc' := 2098) dL_law__2096 (by decide) rfl ?_
  refine y_aload_n (pc' := 2099) dL_law__2098 rfl rfl ?_
  refine y_aload_n (pc' := 2100) dL_law__2099 rfl rfl ?_
  refine y_iload (pc' := 2102) dL_law__2100 rfl rfl ?_
  refine y_iconst (x := 1) (pc' := 2103) dL_law__2102 (by decide) rfl ?_
  refine y_iadd (pc' := 2104) dL_law__2103 rfl rfl ?_
  obtain ⟨h1, h2, h⟩ := h
  refine y_iald (pc' := 2105) dL_law__2104 rfl h1 h2 ?_
  refine y_aload_n (pc' := 2106) dL_law__2105 rfl rfl ?_
  refine y_iload (pc' := 2108) dL_law__2106 rfl rfl ?_
  refine y_iconst (x := 2) (pc' := 2109) dL_law__2108 (by decide) rfl ?_
  refine y_iadd (pc' := 2110) dL_law__2109 rfl rfl ?_
  obtain ⟨h1, h2, h⟩ := h
  refine y_iald (pc' := 2111) dL_law__2110 rfl h1 h2 ?_
  obtain ⟨h1, h⟩ := h
  obtain ⟨d1, b1, Qz, hm, hdd, hb, hkx, hk⟩ := h
  refine y_callV (Y := mX12_missed) (n := 2) (as := [.int (ziv G2 q0 (x4 + 1).toNatClampNeg), .int (ziv G2 q0 (x4 + 2).toNatClampNeg)]) (st := []) (pc' := 2114) (ci := 13) (q := q2) hm dL_law__2111 kL_227 vX12_missed rfl rfl (by decide) rfl h1 hdd hb (Nat.le_of_ble_eq_true rfl) (fun r G5 hz => ?_) hkx
  obtain ⟨y4, rfl, h⟩ := hk r G5 hz
  refine y_istore (pc' := 2116) dL_law__2114 (by decide) rfl ?_
  refine y_aload_n (pc' := 2117) dL_law__2116 rfl rfl ?_
  obtain ⟨h1, h⟩ := h
  obtain ⟨d1, b1, Qz, hm, hdd, hb, hkx, hk⟩ := h
  refine y_callV (Y := mX12_thrown) (n := 0) (as := []) (st := []) (pc' := 2120) (ci := 13) (q := q2) hm dL_law__2117 kL_133 vX12_thrown rfl rfl (by decide) rfl h1 hdd hb (Nat.le_of_ble_eq_true rfl) (fun r G8 hz => ?_) hkx
  obtain ⟨y7, rfl, h⟩ := hk r G8 hz
  refine y_iload (pc' := 2122) dL_law__2120 rfl rfl ?_
  refine y_icmp_eq (pt := 2127) (pc' := 2125) dL_law__2122 (by decide) rfl (fun hc => ?_) (fun hc => ?_)
  · have h := h.1 hc
    refine y_iload (pc' := 2129) dL_law__2127 rfl rfl ?_
    refine y_if_ne (pt := 2144) (pc' := 2132) dL_law__2129 (by decide) rfl (fun hc => ?_) (fun hc => ?_)
    · have h := h.1 hc
      refine y_goto (pc' := 2293) dL_law__2144 (by decide) ?_
      exact y_dr (ls' := [some (.ref q0), some (.ref q1), some (.ref q2), some (.ref q3), some (.int x4), none, none]) ⟨rfl, rfl, rfl, rfl, rfl, trivial⟩ h
    · have h := h.2 hc
      refine y_aload_n (pc' := 2133) dL_law__2132 rfl rfl ?_
      refine y_iconst (x := 0) (pc' := 2134) dL_law__2133 (by decide) rfl ?_
      obtain ⟨h1, h2, h⟩ := h
      refine y_lald (pc' := 2135) dL_law__2134 rfl h1 h2 ?_
      refine y_iload (pc' := 2137) dL_law__2135 rfl rfl ?_
      refine y_i2l (pc' := 2138) dL_law__2137 rfl ?_
      refine y_lcmp (pc' := 2139) dL_law__2138 rfl rfl ?_
      refine y_if_eq (pt := 2144) (pc' := 2142) dL_law__2139 (by decide) rfl (fun hc => ?_) (fun hc => ?_)
      · have h := h.1 hc
        refine y_goto (pc' := 2293) dL_law__2144 (by decide) ?_
        exact y_dr (ls' := [some (.ref q0), some (.ref q1), some (.ref q2), some (.ref q3), some (.int x4), none, none]) ⟨rfl, rfl, rfl, rfl, rfl, trivial⟩ h
      · have h := h.2 hc
        refine y_iconst (x := 0) (pc' := 2143) dL_law__2142 (by decide) rfl ?_
        exact y_zret (ty := .boolean) dL_law__2143 rfl (by decide) h
  · have h := h.2 hc
    refine y_iconst (x := 0) (pc' := 2126) dL_law__2125 (by decide) rfl ?_
    exact y_zret (ty := .boolean) dL_law__2126 rfl (by decide) h
def wp_L_law__2147 (E : ZE) (l : Launch) (d b : Nat) (G0 : ZG) (Q : ZQ) (k : Nat) (q0 : Nat) (q1 : Nat) (q2 : Nat) (q3 : Nat) (x4 : Int32) (G : ZG) : Prop :=
  (zar G q0 0 ∨ zrd G q0 .int) ∧ vp_in (x4 + 1) (zln G q0) ∧
  (zar G q0 0 ∨ zrd G q0 .int) ∧ vp_in (x4 + 2) (zln G q0) ∧
  (((ziv G q0 (x4 + 2).toNatClampNeg) = 0 →
    zWL E l mL_law_ d b G0 Q k 2168 [some (.ref q0), some (.ref q1), some (.ref q2), some (.ref q3), some (.int x4), none, none] [.int 0, .int (ziv G q0 (x4 + 1).toNatClampNeg), .ref q1] G) ∧
  (¬ ((ziv G q0 (x4 + 2).toNatClampNeg) = 0) →
    zWL E l mL_law_ d b G0 Q k 2168 [some (.ref q0), some (.ref q1), some (.ref q2), some (.ref q3), some (.int x4), none, none] [.int 1, .int (ziv G q0 (x4 + 1).toNatClampNeg), .ref q1] G))
theorem wpt_L_law__2147 {E : ZE} {l : Launch} {d b : Nat} {G0 : ZG} {Q : ZQ} {k : Nat} {q0 : Nat} {q1 : Nat} {q2 : Nat} {q3 : Nat} {x4 : Int32} {G : ZG} (h : wp_L_law__2147 E l d b G0 Q k q0 q1 q2 q3 x4 G) : zWL E l mL_law_ d b G0 Q k 2147 [some (.ref q0), some (.ref q1), some (.ref q2), some (.ref q3), some (.int x4), none, none] [] G := by
  unfold wp_L_law__2147 at h
  refine y_aload_n (pc' := 2148) dL_law__2147 rfl rfl ?_
  refine y_aload_n (pc' := 2149) dL_law__2148 rfl rfl ?_
  refine y_iload (pc' := 2151) dL_law__2149 rfl rfl ?_
  refine y_iconst (x := 1) (pc' := 2152) dL_law__2151 (by decide) rfl ?_
  refine y_iadd (pc' := 2153) dL_law__2152 rfl rfl ?_
  obtain ⟨h1, h2, h⟩ := h
  refine y_iald (pc' := 2154) dL_law__2153 rfl h1 h2 ?_
  refine y_aload_n (pc' := 2155) dL_law__2154 rfl rfl ?_
  refine y_iload (pc' := 2157) dL_law__2155 rfl rfl ?_
  refine y_iconst (x := 2) (pc' := 2158) dL_law__2157 (by decide) rfl ?_
  refine y_iadd (pc' := 2159) dL_law__2158 rfl rfl ?_
  obtain ⟨h1, h2, h⟩ := h
  refine y_iald (pc' := 2160) dL_law__2159 rfl h1 h2 ?_
  refine y_if_eq (pt := 2167) (pc' := 2163) dL_law__2160 (by decide) rfl (fun hc => ?_) (fun hc => ?_)
  · have h := h.1 hc
    refine y_iconst (x := 0) (pc' := 2168) dL_law__2167 (by decide) rfl ?_
    exact y_dr (ls' := [some (.ref q0), some (.ref q1), some (.ref q2), some (.ref q3), some (.int x4), none, none]) ⟨rfl, rfl, rfl, rfl, rfl, trivial⟩ h
  · have h := h.2 hc
    refine y_iconst (x := 1) (pc' := 2164) dL_law__2163 (by decide) rfl ?_
    refine y_goto (pc' := 2168) dL_law__2164 (by decide) ?_
    exact y_dr (ls' := [some (.ref q0), some (.ref q1), some (.ref q2), some (.ref q3), some (.int x4), none, none]) ⟨rfl, rfl, rfl, rfl, rfl, trivial⟩ h
def wp_L_law__2168 (E : ZE) (l : Launch) (d b : Nat) (G0 : ZG) (Q : ZQ) (k : Nat) (q0 : Nat) (q1 : Nat) (q2 : Nat) (q3 : Nat) (x4 : Int32) (s0 : Int32) (s1 : Int32) (p2 : Nat) (G : ZG) : Prop :=
  xhI [(0, 10, 13, 13)] E l mL_waits d [.ref p2, .int s1, .int s0, .ref q3] G k (fun X G9 => Q (.inr X) G9) (fun y1 G2 k3 =>
  (zar G2 q0 0 ∨ zrd G2 q0 .int) ∧ vp_in (x4 + 1) (zln G2 q0) ∧
  (zar G2 q0 0 ∨ zrd G2 q0 .int) ∧ vp_in (x4 + 2) (zln G2 q0) ∧
  (((ziv G2 q0 (x4 + 2).toNatClampNeg) = 0 →
    zWL E l mL_law_ d b G0 Q k3 2195 [some (.ref q0), some (.ref q1), some (.ref q2), some (.ref q3), some (.int x4), some (.int y1), none] [.int 0, .int (ziv G2 q0 (x4 + 1).toNatClampNeg), .ref q2] G2) ∧
  (¬ ((ziv G2 q0 (x4 + 2).toNatClampNeg) = 0) →
    zWL E l mL_law_ d b G0 Q k3 2195 [some (.ref q0), some (.ref q1), some (.ref q2), some (.ref q3), some (.int x4), some (.int y1), none] [.int 1, .int (ziv G2 q0 (x4 + 1).toNatClampNeg), .ref q2] G2)))
theorem wpt_L_law__2168 {E : ZE} {l : Launch} {d b : Nat} {G0 : ZG} {Q : ZQ} {k : Nat} {q0 : Nat} {q1 : Nat} {q2 : Nat} {q3 : Nat} {x4 : Int32} {s0 : Int32} {s1 : Int32} {p2 : Nat} {G : ZG} (h : wp_L_law__2168 E l d b G0 Q k q0 q1 q2 q3 x4 s0 s1 p2 G) : zWL E l mL_law_ d b G0 Q k 2168 [some (.ref q0), some (.ref q1), some (.ref q2), some (.ref q3), some (.int x4), none, none] [.int s0, .int s1, .ref p2] G := by
  unfold wp_L_law__2168 at h
  refine y_aload_n (pc' := 2169) dL_law__2168 rfl rfl ?_
  obtain ⟨d1, b1, Qz, hm, hdd, hb, hkx, hk⟩ := h
  refine y_callH (Y := mL_waits) (n := 4) (as := [.ref p2, .int s1, .int s0, .ref q3]) (st := []) (pc' := 2172) hm dL_law__2169 kL_228 hL_waits rfl rfl hdd hb (Nat.le_of_ble_eq_true rfl) (fun r G2 hz => ?_) hkx
  obtain ⟨y1, rfl, h⟩ := hk r G2 hz
  refine y_istore (pc' := 2174) dL_law__2172 (by decide) rfl ?_
  refine y_aload_n (pc' := 2175) dL_law__2174 rfl rfl ?_
  refine y_aload_n (pc' := 2176) dL_law__2175 rfl rfl ?_
  refine y_iload (pc' := 2178) dL_law__2176 rfl rfl ?_
  refine y_iconst (x := 1) (pc' := 2179) dL_law__2178 (by decide) rfl ?_
  refine y_iadd (pc' := 2180) dL_law__2179 rfl rfl ?_
  obtain ⟨h1, h2, h⟩ := h
  refine y_iald (pc' := 2181) dL_law__2180 rfl h1 h2 ?_
  refine y_aload_n (pc' := 2182) dL_law__2181 rfl rfl ?_
  refine y_iload (pc' := 2184) dL_law__2182 rfl rfl ?_
  refine y_iconst (x := 2) (pc' := 2185) dL_law__2184 (by decide) rfl ?_
  refine y_iadd (pc' := 2186) dL_law__2185 rfl rfl ?_
  obtain ⟨h1, h2, h⟩ := h
  refine y_iald (pc' := 2187) dL_law__2186 rfl h1 h2 ?_
  refine y_if_eq (pt := 2194) (pc' := 2190) dL_law__2187 (by decide) rfl (fun hc => ?_) (fun hc => ?_)
  · have h := h.1 hc
    refine y_iconst (x := 0) (pc' := 2195) dL_law__2194 (by decide) rfl ?_
    exact y_dr (ls' := [some (.ref q0), some (.ref q1), some (.ref q2), some (.ref q3), some (.int x4), some (.int y1), none]) ⟨rfl, rfl, rfl, rfl, rfl, rfl, trivial⟩ h
  · have h := h.2 hc
    refine y_iconst (x := 1) (pc' := 2191) dL_law__2190 (by decide) rfl ?_
    refine y_goto (pc' := 2195) dL_law__2191 (by decide) ?_
    exact y_dr (ls' := [some (.ref q0), some (.ref q1), some (.ref q2), some (.ref q3), some (.int x4), some (.int y1), none]) ⟨rfl, rfl, rfl, rfl, rfl, rfl, trivial⟩ h
def wp_L_law__2195 (E : ZE) (l : Launch) (d b : Nat) (G0 : ZG) (Q : ZQ) (k : Nat) (q0 : Nat) (q1 : Nat) (q2 : Nat) (q3 : Nat) (x4 : Int32) (x5 : Int32) (s0 : Int32) (s1 : Int32) (p2 : Nat) (G : ZG) : Prop :=
  zob G p2 13 ∧
  xcI E l mX12_waits d [.ref p2, .int s1, .int s0] G k (fun X G9 => Q (.inr X) G9) (fun y1 G2 k3 =>
  zob G2 q2 13 ∧
  xcI E l mX12_thrown d [.ref q2] G2 k3 (fun X G9 => Q (.inr X) G9) (fun y4 G5 k6 =>
  ((y4 = x5 →
    ((¬ x5 = 0 →
      zWL E l mL_law_ d b G0 Q k6 2293 [some (.ref q0), some (.ref q1), some (.ref q2), some (.ref q3), some (.int x4), none, none] [] G5) ∧
    (¬ (¬ x5 = 0) →
      zar G5 q3 3 ∧ vp_in 0 (zln G5 q3) ∧
      (((lg_cmp ((ziv G5 q3 (0 : Int32).toNatClampNeg)).toInt64 (y1).toInt64) = 0 →
        zWL E l mL_law_ d b G0 Q k6 2293 [some (.ref q0), some (.ref q1), some (.ref q2), some (.ref q3), some (.int x4), none, none] [] G5) ∧
      (¬ ((lg_cmp ((ziv G5 q3 (0 : Int32).toNatClampNeg)).toInt64 (y1).toInt64) = 0) →
        Q (.inl (some (.int 0))) G5))))) ∧
  (¬ (y4 = x5) →
    Q (.inl (some (.int 0))) G5))))
theorem wpt_L_law__2195 {E : ZE} {l : Launch} {d b : Nat} {G0 : ZG} {Q : ZQ} {k : Nat} {q0 : Nat} {q1 : Nat} {q2 : Nat} {q3 : Nat} {x4 : Int32} {x5 : Int32} {s0 : Int32} {s1 : Int32} {p2 : Nat} {G : ZG} (h : wp_L_law__2195 E l d b G0 Q k q0 q1 q2 q3 x4 x5 s0 s1 p2 G) : zWL E l mL_law_ d b G0 Q k 2195 [some (.ref q0), some (.ref q1), some (.ref q2), some (.ref q3), some (.int x4), some (.int x5), none] [.int s0, .int s1, .ref p2] G := by
  unfold wp_L_law__2195 at h
  obtain ⟨h1, h⟩ := h
  obtain ⟨d1, b1, Qz, hm, hdd, hb, hkx, hk⟩ := h
  refine y_callV (Y := mX12_waits) (n := 2) (as := [.int s1, .int s0]) (st := []) (pc' := 2198) (ci := 13) (q := p2) hm dL_law__2195 kL_231 vX12_waits rfl rfl (by decide) rfl h1 hdd hb (Nat.le_of_ble_eq_true rfl) (fun r G2 hz => ?_) hkx
  obtain ⟨y1, rfl, h⟩ := hk r G2 hz
  refine y_istore (pc' := 2200) dL_law__2198 (by decide) rfl ?_
  refine y_aload_n (pc' := 2201) dL_law__2200 rfl rfl ?_
  obtain ⟨h1, h⟩ := h
  obtain ⟨d1, b1, Qz, hm, hdd, hb, hkx, hk⟩ := h
  refine y_callV (Y := mX12_thrown) (n := 0) (as := []) (st := []) (pc' := 2204) (ci := 13) (q := q2) hm dL_law__2201 kL_133 vX12_thrown rfl rfl (by decide) rfl h1 hdd hb (Nat.le_of_ble_eq_true rfl) (fun r G5 hz => ?_) hkx
  obtain ⟨y4, rfl, h⟩ := hk r G5 hz
  refine y_iload (pc' := 2206) dL_law__2204 rfl rfl ?_
  refine y_icmp_eq (pt := 2211) (pc' := 2209) dL_law__2206 (by decide) rfl (fun hc => ?_) (fun hc => ?_)
  · have h := h.1 hc
    refine y_iload (pc' := 2213) dL_law__2211 rfl rfl ?_
    refine y_if_ne (pt := 2228) (pc' := 2216) dL_law__2213 (by decide) rfl (fun hc => ?_) (fun hc => ?_)
    · have h := h.1 hc
      refine y_goto (pc' := 2293) dL_law__2228 (by decide) ?_
      exact y_dr (ls' := [some (.ref q0), some (.ref q1), some (.ref q2), some (.ref q3), some (.int x4), none, none]) ⟨rfl, rfl, rfl, rfl, rfl, trivial⟩ h
    · have h := h.2 hc
      refine y_aload_n (pc' := 2217) dL_law__2216 rfl rfl ?_
      refine y_iconst (x := 0) (pc' := 2218) dL_law__2217 (by decide) rfl ?_
      obtain ⟨h1, h2, h⟩ := h
      refine y_lald (pc' := 2219) dL_law__2218 rfl h1 h2 ?_
      refine y_iload (pc' := 2221) dL_law__2219 rfl rfl ?_
      refine y_i2l (pc' := 2222) dL_law__2221 rfl ?_
      refine y_lcmp (pc' := 2223) dL_law__2222 rfl rfl ?_
      refine y_if_eq (pt := 2228) (pc' := 2226) dL_law__2223 (by decide) rfl (fun hc => ?_) (fun hc => ?_)
      · have h := h.1 hc
        refine y_goto (pc' := 2293) dL_law__2228 (by decide) ?_
        exact y_dr (ls' := [some (.ref q0), some (.ref q1), some (.ref q2), some (.ref q3), some (.int x4), none, none]) ⟨rfl, rfl, rfl, rfl, rfl, trivial⟩ h
      · have h := h.2 hc
        refine y_iconst (x := 0) (pc' := 2227) dL_law__2226 (by decide) rfl ?_
        exact y_zret (ty := .boolean) dL_law__2227 rfl (by decide) h
  · have h := h.2 hc
    refine y_iconst (x := 0) (pc' := 2210) dL_law__2209 (by decide) rfl ?_
    exact y_zret (ty := .boolean) dL_law__2210 rfl (by decide) h
def wp_L_law__2231 (E : ZE) (l : Launch) (d b : Nat) (G0 : ZG) (Q : ZQ) (k : Nat) (q0 : Nat) (q1 : Nat) (q2 : Nat) (q3 : Nat) (x4 : Int32) (G : ZG) : Prop :=
  (zar G q0 0 ∨ zrd G q0 .int) ∧ vp_in (x4 + 1) (zln G q0) ∧
  (zar G q0 0 ∨ zrd G q0 .int) ∧ vp_in (x4 + 2) (zln G q0) ∧
  zob G q1 12 ∧
  xcI E l mX11_ends d [.ref q1, .int (ziv G q0 (x4 + 1).toNatClampNeg), .int (ziv G q0 (x4 + 2).toNatClampNeg)] G k (fun X G9 => Q (.inr X) G9) (fun y1 G2 k3 =>
  (zar G2 q0 0 ∨ zrd G2 q0 .int) ∧ vp_in (x4 + 1) (zln G2 q0) ∧
  (zar G2 q0 0 ∨ zrd G2 q0 .int) ∧ vp_in (x4 + 2) (zln G2 q0) ∧
  zob G2 q2 13 ∧
  xcI E l mX12_ends d [.ref q2, .int (ziv G2 q0 (x4 + 1).toNatClampNeg), .int (ziv G2 q0 (x4 + 2).toNatClampNeg)] G2 k3 (fun X G9 => Q (.inr X) G9) (fun y4 G5 k6 =>
  ((y1 = y4 →
    zWL E l mL_law_ d b G0 Q k6 2293 [some (.ref q0), some (.ref q1), some (.ref q2), some (.ref q3), some (.int x4), none, none] [] G5) ∧
  (¬ (y1 = y4) →
    Q (.inl (some (.int 0))) G5))))
theorem wpt_L_law__2231 {E : ZE} {l : Launch} {d b : Nat} {G0 : ZG} {Q : ZQ} {k : Nat} {q0 : Nat} {q1 : Nat} {q2 : Nat} {q3 : Nat} {x4 : Int32} {G : ZG} (h : wp_L_law__2231 E l d b G0 Q k q0 q1 q2 q3 x4 G) : zWL E l mL_law_ d b G0 Q k 2231 [some (.ref q0), some (.ref q1), some (.ref q2), some (.ref q3), some (.int x4), none, none] [] G := by
  unfold wp_L_law__2231 at h
  refine y_aload_n (pc' := 2232) dL_law__2231 rfl rfl ?_
  refine y_aload_n (pc' := 2233) dL_law__2232 rfl rfl ?_
  refine y_iload (pc' := 2235) dL_law__2233 rfl rfl ?_
  refine y_iconst (x := 1) (pc' := 2236) dL_law__2235 (by decide) rfl ?_
  refine y_iadd (pc' := 2237) dL_law__2236 rfl rfl ?_
  obtain ⟨h1, h2, h⟩ := h
  refine y_iald (pc' := 2238) dL_law__2237 rfl h1 h2 ?_
  refine y_aload_n (pc' := 2239) dL_law__2238 rfl rfl ?_
  refine y_iload (pc' := 2241) dL_law__2239 rfl rfl ?_
  refine y_iconst (x := 2) (pc' := 2242) dL_law__2241 (by decide) rfl ?_
  refine y_iadd (pc' := 2243) dL_law__2242 rfl rfl ?_
  obtain ⟨h1, h2, h⟩ := h
  refine y_iald (pc' := 2244) dL_law__2243 rfl h1 h2 ?_
  obtain ⟨h1, h⟩ := h
  obtain ⟨d1, b1, Qz, hm, hdd, hb, hkx, hk⟩ := h
  refine y_callV (Y := mX11_ends) (n := 2) (as := [.int (ziv G q0 (x4 + 1).toNatClampNeg), .int (ziv G q0 (x4 + 2).toNatClampNeg)]) (st := []) (pc' := 2247) (ci := 12) (q := q1) hm dL_law__2244 kL_232 vX11_ends rfl rfl (by decide) rfl h1 hdd hb (Nat.le_of_ble_eq_true rfl) (fun r G2 hz => ?_) hkx
  obtain ⟨y1, rfl, h⟩ := hk r G2 hz
  refine y_aload_n (pc' := 2248) dL_law__2247 rfl rfl ?_
  refine y_aload_n (pc' := 2249) dL_law__2248 rfl rfl ?_
  refine y_iload (pc' := 2251) dL_law__2249 rfl rfl ?_
  refine y_iconst (x := 1) (pc' := 2252) dL_law__2251 (by decide) rfl ?_
  refine y_iadd (pc' := 2253) dL_law__2252 rfl rfl ?_
  obtain ⟨h1, h2, h⟩ := h
  refine y_iald (pc' := 2254) dL_law__2253 rfl h1 h2 ?_
  refine y_aload_n (pc' := 2255) dL_law__2254 rfl rfl ?_
  refine y_iload (pc' := 2257) dL_law__2255 rfl rfl ?_
  refine y_iconst (x := 2) (pc' := 2258) dL_law__2257 (by decide) rfl ?_
  refine y_iadd (pc' := 2259) dL_law__2258 rfl rfl ?_
  obtain ⟨h1, h2, h⟩ := h
  refine y_iald (pc' := 2260) dL_law__2259 rfl h1 h2 ?_
  obtain ⟨h1, h⟩ := h
  obtain ⟨d1, b1, Qz, hm, hdd, hb, hkx, hk⟩ := h
  refine y_callV (Y := mX12_ends) (n := 2) (as := [.int (ziv G2 q0 (x4 + 1).toNatClampNeg), .int (ziv G2 q0 (x4 + 2).toNatClampNeg)]) (st := [.int y1]) (pc' := 2263) (ci := 13) (q := q2) hm dL_law__2260 kL_235 vX12_ends rfl rfl (by decide) rfl h1 hdd hb (Nat.le_of_ble_eq_true rfl) (fun r G5 hz => ?_) hkx
  obtain ⟨y4, rfl, h⟩ := hk r G5 hz
  refine y_icmp_eq (pt := 2293) (pc' := 2266) dL_law__2263 (by decide) rfl (fun hc => ?_) (fun hc => ?_)
  · have h := h.1 hc
    exact y_dr (ls' := [some (.ref q0), some (.ref q1), some (.ref q2), some (.ref q3), some (.int x4), none, none]) ⟨rfl, rfl, rfl, rfl, rfl, trivial⟩ h
  · have h := h.2 hc
    refine y_iconst (x := 0) (pc' := 2267) dL_law__2266 (by decide) rfl ?_
    exact y_zret (ty := .boolean) dL_law__2267 rfl (by decide) h
def wp_L_law__2268 (E : ZE) (l : Launch) (d b : Nat) (G0 : ZG) (Q : ZQ) (k : Nat) (q0 : Nat) (q1 : Nat) (q2 : Nat) (q3 : Nat) (x4 : Int32) (G : ZG) : Prop :=
  (zar G q0 0 ∨ zrd G q0 .int) ∧ vp_in (x4 + 1) (zln G q0) ∧
  zob G q1 12 ∧
  xcI E l mX11_count d [.ref q1, .int (ziv G q0 (x4 + 1).toNatClampNeg)] G k (fun X G9 => Q (.inr X) G9) (fun y1 G2 k3 =>
  (zar G2 q0 0 ∨ zrd G2 q0 .int) ∧ vp_in (x4 + 1) (zln G2 q0) ∧
  zob G2 q2 13 ∧
  xcI E l mX12_count d [.ref q2, .int (ziv G2 q0 (x4 + 1).toNatClampNeg)] G2 k3 (fun X G9 => Q (.inr X) G9) (fun y4 G5 k6 =>
  ((y1 = y4 →
    zWL E l mL_law_ d b G0 Q k6 2293 [some (.ref q0), some (.ref q1), some (.ref q2), some (.ref q3), some (.int x4), none, none] [] G5) ∧
  (¬ (y1 = y4) →
    Q (.inl (some (.int 0))) G5))))
theorem wpt_L_law__2268 {E : ZE} {l : Launch} {d b : Nat} {G0 : ZG} {Q : ZQ} {k : Nat} {q0 : Nat} {q1 : Nat} {q2 : Nat} {q3 : Nat} {x4 : Int32} {G : ZG} (h : wp_L_law__2268 E l d b G0 Q k q0 q1 q2 q3 x4 G) : zWL E l mL_law_ d b G0 Q k 2268 [some (.ref q0), some (.ref q1), some (.ref q2), some (.ref q3), some (.int x4), none, none] [] G := by
  unfold wp_L_law__2268 at h
  refine y_aload_n (pc' := 2269) dL_law__2268 rfl rfl ?_
  refine y_aload_n (pc' := 2270) dL_law__2269 rfl rfl ?_
  refine y_iload (pc' := 2272) dL_law__2270 rfl rfl ?_
  refine y_iconst (x := 1) (pc' := 2273) dL_law__2272 (by decide) rfl ?_
  refine y_iadd (pc' := 2274) dL_law__2273 rfl rfl ?_
  obtain ⟨h1, h2, h⟩ := h
  refine y_iald (pc' := 2275) dL_law__2274 rfl h1 h2 ?_
  obtain ⟨h1, h⟩ := h
  obtain ⟨d1, b1, Qz, hm, hdd, hb, hkx, hk⟩ := h
  refine y_callV (Y := mX11_count) (n := 1) (as := [.int (ziv G q0 (x4 + 1).toNatClampNeg)]) (st := []) (pc' := 2278) (ci := 12) (q := q1) hm dL_law__2275 kL_236 vX11_count rfl rfl (by decide) rfl h1 hdd hb (Nat.le_of_ble_eq_true rfl) (fun r G2 hz => ?_) hkx
  obtain ⟨y1, rfl, h⟩ := hk r G2 hz
  refine y_aload_n (pc' := 2279) dL_law__2278 rfl rfl ?_
  refine y_aload_n (pc' := 2280) dL_law__2279 rfl rfl ?_
  refine y_iload (pc' := 2282) dL_law__2280 rfl rfl ?_
  refine y_iconst (x := 1) (pc' := 2283) dL_law__2282 (by decide) rfl ?_
  refine y_iadd (pc' := 2284) dL_law__2283 rfl rfl ?_
  obtain ⟨h1, h2, h⟩ := h
  refine y_iald (pc' := 2285) dL_law__2284 rfl h1 h2 ?_
  obtain ⟨h1, h⟩ := h
  obtain ⟨d1, b1, Qz, hm, hdd, hb, hkx, hk⟩ := h
  refine y_callV (Y := mX12_count) (n := 1) (as := [.int (ziv G2 q0 (x4 + 1).toNatClampNeg)]) (st := [.int y1]) (pc' := 2288) (ci := 13) (q := q2) hm dL_law__2285 kL_239 vX12_count rfl rfl (by decide) rfl h1 hdd hb (Nat.le_of_ble_eq_true rfl) (fun r G5 hz => ?_) hkx
  obtain ⟨y4, rfl, h⟩ := hk r G5 hz
  refine y_icmp_eq (pt := 2293) (pc' := 2291) dL_law__2288 (by decide) rfl (fun hc => ?_) (fun hc => ?_)
  · have h := h.1 hc
    exact y_dr (ls' := [some (.ref q0), some (.ref q1), some (.ref q2), some (.ref q3), some (.int x4), none, none]) ⟨rfl, rfl, rfl, rfl, rfl, trivial⟩ h
  · have h := h.2 hc
    refine y_iconst (x := 0) (pc' := 2292) dL_law__2291 (by decide) rfl ?_
    exact y_zret (ty := .boolean) dL_law__2292 rfl (by decide) h
def wp_L_law__2293 (E : ZE) (l : Launch) (d b : Nat) (G0 : ZG) (Q : ZQ) (k : Nat) (q0 : Nat) (q1 : Nat) (q2 : Nat) (q3 : Nat) (x4 : Int32) (G : ZG) : Prop :=
  zWL E l mL_law_ d b G0 Q k 23 [some (.ref q0), some (.ref q1), some (.ref q2), some (.ref q3), some (.int (x4 + 8)), none, none] [] G
theorem wpt_L_law__2293 {E : ZE} {l : Launch} {d b : Nat} {G0 : ZG} {Q : ZQ} {k : Nat} {q0 : Nat} {q1 : Nat} {q2 : Nat} {q3 : Nat} {x4 : Int32} {G : ZG} (h : wp_L_law__2293 E l d b G0 Q k q0 q1 q2 q3 x4 G) : zWL E l mL_law_ d b G0 Q k 2293 [some (.ref q0), some (.ref q1), some (.ref q2), some (.ref q3), some (.int x4), none, none] [] G := by
  unfold wp_L_law__2293 at h
  refine y_iinc (y := x4 + 8) (pc' := 2296) dL_law__2293 rfl (zinc_8 _) (by decide) rfl ?_
  refine y_goto (pc' := 23) dL_law__2296 (by decide) ?_
  exact y_dr (ls' := [some (.ref q0), some (.ref q1), some (.ref q2), some (.ref q3), some (.int (x4 + 8)), none, none]) ⟨rfl, rfl, rfl, rfl, rfl, trivial⟩ h
