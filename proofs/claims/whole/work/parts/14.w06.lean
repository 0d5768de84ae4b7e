/-! what the methods come to -/
def wp_X12_turnOf_0 (E : ZE) (l : Launch) (d b : Nat) (G0 : ZG) (Q : ZQ) (k : Nat) (x0 : Int32) (G : ZG) : Prop :=
  xcI E l mX12_in d [.int x0, .int 65, .int 90] G k (fun X G9 => Q (.inr X) G9) (fun y1 G2 k3 =>
  ((y1 = 0 →
    xcI E l mX12_in d [.int x0, .int 97, .int 122] G2 k3 (fun X G9 => Q (.inr X) G9) (fun y4 G5 k6 =>
    ((y4 = 0 →
      ((x0 = 32 ∨ x0 = 45 →
        Q (.inl (some (.int 60))) G5) ∧
      ((x0 = 196 ∨ x0 = 198 ∨ x0 = 228 ∨ x0 = 230 →
        Q (.inl (some (.int 17729))) G5) ∧
      ((x0 = 197 ∨ x0 = 229 →
        Q (.inl (some (.int 16705))) G5) ∧
      ((x0 = 199 ∨ x0 = 231 →
        Q (.inl (some (.int 67))) G5) ∧
      ((x0 = 200 ∨ x0 = 201 ∨ x0 = 232 ∨ x0 = 233 →
        Q (.inl (some (.int 69))) G5) ∧
      ((x0 = 209 ∨ x0 = 241 →
        Q (.inl (some (.int 78))) G5) ∧
      ((x0 = 214 ∨ x0 = 216 ∨ x0 = 246 ∨ x0 = 248 →
        Q (.inl (some (.int 17743))) G5) ∧
      ((x0 = 220 ∨ x0 = 252 →
        Q (.inl (some (.int 17749))) G5) ∧
      ((x0 = 223 →
        Q (.inl (some (.int 21331))) G5) ∧
      (¬ (x0 = 32 ∨ x0 = 45) → ¬ (x0 = 196 ∨ x0 = 198 ∨ x0 = 228 ∨ x0 = 230) → ¬ (x0 = 197 ∨ x0 = 229) → ¬ (x0 = 199 ∨ x0 = 231) → ¬ (x0 = 200 ∨ x0 = 201 ∨ x0 = 232 ∨ x0 = 233) → ¬ (x0 = 209 ∨ x0 = 241) → ¬ (x0 = 214 ∨ x0 = 216 ∨ x0 = 246 ∨ x0 = 248) → ¬ (x0 = 220 ∨ x0 = 252) → ¬ (x0 = 223) →
        Q (.inl (some (.int 0))) G5))))))))))) ∧
    (¬ (y4 = 0) →
      Q (.inl (some (.int (x0 - 32)))) G5)))) ∧
  (¬ (y1 = 0) →
    Q (.inl (some (.int x0))) G2)))
theorem wpt_X12_turnOf_0 {E : ZE} {l : Launch} {d b : Nat} {G0 : ZG} {Q : ZQ} {k : Nat} {x0 : Int32} {G : ZG} (h : wp_X12_turnOf_0 E l d b G0 Q k x0 G) : zW E l mX12_turnOf d b G0 Q k 0 [some (.int x0)] [] G := by
  unfold wp_X12_turnOf_0 at h
  refine z_iload_n (pc' := 1) dX12_turnOf_0 rfl rfl ?_
  refine z_bipush (x := 65) (pc' := 3) dX12_turnOf_1 (by decide) rfl ?_
  refine z_bipush (x := 90) (pc' := 5) dX12_turnOf_3 (by decide) rfl ?_
  obtain ⟨d1, b1, Qz, hm, hdd, hb, hkx, hk⟩ := h
  refine z_callS (Y := mX12_in) (n := 3) (as := [.int x0, .int 65, .int 90]) (st := []) (pc' := 8) hm dX12_turnOf_5 kX12_317 sX12_in rfl rfl hdd hb (Nat.le_of_ble_eq_true rfl) (fun r G2 hz => ?_) hkx
  obtain ⟨y1, rfl, h⟩ := hk r G2 hz
  refine z_if_eq (pt := 13) (pc' := 11) dX12_turnOf_8 (by decide) rfl (fun hc => ?_) (fun hc => ?_)
  · have h := h.1 hc
    refine z_iload_n (pc' := 14) dX12_turnOf_13 rfl rfl ?_
    refine z_bipush (x := 97) (pc' := 16) dX12_turnOf_14 (by decide) rfl ?_
    refine z_bipush (x := 122) (pc' := 18) dX12_turnOf_16 (by decide) rfl ?_
    obtain ⟨d1, b1, Qz, hm, hdd, hb, hkx, hk⟩ := h
    refine z_callS (Y := mX12_in) (n := 3) (as := [.int x0, .int 97, .int 122]) (st := []) (pc' := 21) hm dX12_turnOf_18 kX12_317 sX12_in rfl rfl hdd hb (Nat.le_of_ble_eq_true rfl) (fun r G5 hz => ?_) hkx
    obtain ⟨y4, rfl, h⟩ := hk r G5 hz
    refine z_if_eq (pt := 29) (pc' := 24) dX12_turnOf_21 (by decide) rfl (fun hc => ?_) (fun hc => ?_)
    · have h := h.1 hc
      refine z_iload_n (pc' := 30) dX12_turnOf_29 rfl rfl ?_
      by_cases hc0 : x0 = 32 ∨ x0 = 45
      · have h := h.1 hc0
        refine z_lookup (off := 194) (pt := 224) dX12_turnOf_30 (by decide) (by rcases hc0 with hc0 | hc0 <;> (rw [hc0]; decide)) (by decide) ?_
        refine z_bipush (x := 60) (pc' := 226) dX12_turnOf_224 (by decide) rfl ?_
        exact z_iret dX12_turnOf_226 rfl h
      have h := h.2
      by_cases hc1 : x0 = 196 ∨ x0 = 198 ∨ x0 = 228 ∨ x0 = 230
      · have h := h.1 hc1
        refine z_lookup (off := 197) (pt := 227) dX12_turnOf_30 (by decide) (by rcases hc1 with hc1 | hc1 | hc1 | hc1 <;> (rw [hc1]; decide)) (by decide) ?_
        refine z_sipush (x := 17729) (pc' := 230) dX12_turnOf_227 (by decide) rfl ?_
        exact z_iret dX12_turnOf_230 rfl h
      have h := h.2
      by_cases hc2 : x0 = 197 ∨ x0 = 229
      · have h := h.1 hc2
        refine z_lookup (off := 213) (pt := 243) dX12_turnOf_30 (by decide) (by rcases hc2 with hc2 | hc2 <;> (rw [hc2]; decide)) (by decide) ?_
        refine z_sipush (x := 16705) (pc' := 246) dX12_turnOf_243 (by decide) rfl ?_
        exact z_iret dX12_turnOf_246 rfl h
      have h := h.2
      by_cases hc3 : x0 = 199 ∨ x0 = 231
      · have h := h.1 hc3
        refine z_lookup (off := 223) (pt := 253) dX12_turnOf_30 (by decide) (by rcases hc3 with hc3 | hc3 <;> (rw [hc3]; decide)) (by decide) ?_
        refine z_bipush (x := 67) (pc' := 255) dX12_turnOf_253 (by decide) rfl ?_
        exact z_iret dX12_turnOf_255 rfl h
      have h := h.2
      by_cases hc4 : x0 = 200 ∨ x0 = 201 ∨ x0 = 232 ∨ x0 = 233
      · have h := h.1 hc4
        refine z_lookup (off := 220) (pt := 250) dX12_turnOf_30 (by decide) (by rcases hc4 with hc4 | hc4 | hc4 | hc4 <;> (rw [hc4]; decide)) (by decide) ?_
        refine z_bipush (x := 69) (pc' := 252) dX12_turnOf_250 (by decide) rfl ?_
        exact z_iret dX12_turnOf_252 rfl h
      have h := h.2
      by_cases hc5 : x0 = 209 ∨ x0 = 241
      · have h := h.1 hc5
        refine z_lookup (off := 217) (pt := 247) dX12_turnOf_30 (by decide) (by rcases hc5 with hc5 | hc5 <;> (rw [hc5]; decide)) (by decide) ?_
        refine z_bipush (x := 78) (pc' := 249) dX12_turnOf_247 (by decide) rfl ?_
        exact z_iret dX12_turnOf_249 rfl h
      have h := h.2
      by_cases hc6 : x0 = 214 ∨ x0 = 216 ∨ x0 = 246 ∨ x0 = 248
      · have h := h.1 hc6
        refine z_lookup (off := 201) (pt := 231) dX12_turnOf_30 (by decide) (by rcases hc6 with hc6 | hc6 | hc6 | hc6 <;> (rw [hc6]; decide)) (by decide) ?_
        refine z_sipush (x := 17743) (pc' := 234) dX12_turnOf_231 (by decide) rfl ?_
        exact z_iret dX12_turnOf_234 rfl h
      have h := h.2
      by_cases hc7 : x0 = 220 ∨ x0 = 252
      · have h := h.1 hc7
        refine z_lookup (off := 205) (pt := 235) dX12_turnOf_30 (by decide) (by rcases hc7 with hc7 | hc7 <;> (rw [hc7]; decide)) (by decide) ?_
        refine z_sipush (x := 17749) (pc' := 238) dX12_turnOf_235 (by decide) rfl ?_
        exact z_iret dX12_turnOf_238 rfl h
      have h := h.2
      by_cases hc8 : x0 = 223
      · have h := h.1 hc8
        refine z_lookup (off := 209) (pt := 239) dX12_turnOf_30 (by decide) (by rcases hc8 with hc8 <;> (rw [hc8]; decide)) (by decide) ?_
        refine z_sipush (x := 21331) (pc' := 242) dX12_turnOf_239 (by decide) rfl ?_
        exact z_iret dX12_turnOf_242 rfl h
      have h := h.2
      have h := h hc0 hc1 hc2 hc3 hc4 hc5 hc6 hc7 hc8
      simp only [not_or] at hc0 hc1 hc2 hc3 hc4 hc5 hc6 hc7 hc8
      refine z_lookup (off := 226) (pt := 256) dX12_turnOf_30 (by decide) (z_lkno (ps := [(32, 194), (45, 194), (196, 197), (197, 213), (198, 197), (199, 223), (200, 220), (201, 220), (209, 217), (214, 201), (216, 201), (220, 205), (223, 209), (228, 197), (229, 213), (230, 197), (231, 223), (232, 220), (233, 220), (241, 217), (246, 201), (248, 201), (252, 205)]) (by simp only [List.mem_cons, List.not_mem_nil, or_false, forall_eq_or_imp, forall_eq]; exact ⟨(lv_neT (a := 32) hc0.1 (by decide)), (lv_neT (a := 45) hc0.2 (by decide)), (lv_neT (a := 196) hc1.1 (by decide)), (lv_neT (a := 197) hc2.1 (by decide)), (lv_neT (a := 198) hc1.2.1 (by decide)), (lv_neT (a := 199) hc3.1 (by decide)), (lv_neT (a := 200) hc4.1 (by decide)), (lv_neT (a := 201) hc4.2.1 (by decide)), (lv_neT (a := 209) hc5.1 (by decide)), (lv_neT (a := 214) hc6.1 (by decide)), (lv_neT (a := 216) hc6.2.1 (by decide)), (lv_neT (a := 220) hc7.1 (by decide)), (lv_neT (a := 223) hc8 (by decide)), (lv_neT (a := 228) hc1.2.2.1 (by decide)), (lv_neT (a := 229) hc2.2 (by decide)), (lv_neT (a := 230) hc1.2.2.2 (by decide)), (lv_neT (a := 231) hc3.2 (by decide)), (lv_neT (a := 232) hc4.2.2.1 (by decide)), (lv_neT (a := 233) hc4.2.2.2 (by decide)), (lv_neT (a := 241) hc5.2 (by decide)), (lv_neT (a := 246) hc6.2.2.1 (by decide)), (lv_neT (a := 248) hc6.2.2.2 (by decide)), (lv_neT (a := 252) hc7.2 (by decide))⟩)) (by decide) ?_
      refine z_iconst (x := 0) (pc' := 257) dX12_turnOf_256 (by decide) rfl ?_
      exact z_iret dX12_turnOf_257 rfl h
    · have h := h.2 hc
      refine z_iload_n (pc' := 25) dX12_turnOf_24 rfl rfl ?_
      refine z_bipush (x := 32) (pc' := 27) dX12_turnOf_25 (by decide) rfl ?_
      refine z_isub (pc' := 28) dX12_turnOf_27 rfl rfl ?_
      exact z_iret dX12_turnOf_28 rfl h
  · have h := h.2 hc
    refine z_iload_n (pc' := 12) dX12_turnOf_11 rfl rfl ?_
    exact z_iret dX12_turnOf_12 rfl h
def wp_X12_units_0 (E : ZE) (l : Launch) (d b : Nat) (G0 : ZG) (Q : ZQ) (k : Nat) (q0 : Nat) (x1 : Int32) (x2 : Int32) (G : ZG) : Prop :=
  zob G q0 13 ∧
  ∀ G1, G1 = zsi G q0 0 0 →
  xcI E l mX12_noDesk d [.int x1] G1 k (fun X G9 => Q (.inr X) G9) (fun y2 G3 k4 =>
  zob G3 q0 13 ∧
  xcI E l mX12_throwsIf d [.ref q0, .int y2, .int 1] G3 k4 (fun X G9 => Q (.inr X) G9) (fun y5 G6 k7 =>
  ((y5 = 0 →
    zob G6 q0 13 ∧
    xcI E l mX12_unitsOf d [.ref q0, .int x1, .int x2] G6 k7 (fun X G9 => Q (.inr X) G9) (fun y8 G9 k10 =>
    Q (.inl (some (.int y8))) G9)) ∧
  (¬ (y5 = 0) →
    Q (.inl (some (.int 0))) G6))))
theorem wpt_X12_units_0 {E : ZE} {l : Launch} {d b : Nat} {G0 : ZG} {Q : ZQ} {k : Nat} {q0 : Nat} {x1 : Int32} {x2 : Int32} {G : ZG} (h : wp_X12_units_0 E l d b G0 Q k q0 x1 x2 G) : zW E l mX12_units d b G0 Q k 0 [some (.ref q0), some (.int x1), some (.int x2)] [] G := by
  unfold wp_X12_units_0 at h
  refine z_aload_n (pc' := 1) dX12_units_0 rfl rfl ?_
  refine z_iconst (x := 0) (pc' := 2) dX12_units_1 (by decide) rfl ?_
  obtain ⟨h1, h⟩ := h
  obtain ⟨G1, hG⟩ : ∃ z, z = zsi G q0 0 0 := ⟨_, rfl⟩
  have h := h _ hG
  refine z_putI (ci := 13) (kf := 0) (pc' := 5) dX12_units_2 kX12_178 (Or.inl rfl) (by decide) (by decide) rfl (Or.inl rfl) rfl h1 (zok_int _) ?_
  refine z_st hG ?_
  refine z_aload_n (pc' := 6) dX12_units_5 rfl rfl ?_
  refine z_iload_n (pc' := 7) dX12_units_6 rfl rfl ?_
  obtain ⟨d1, b1, Qz, hm, hdd, hb, hkx, hk⟩ := h
  refine z_callS (Y := mX12_noDesk) (n := 1) (as := [.int x1]) (st := [.ref q0]) (pc' := 10) hm dX12_units_7 kX12_394 sX12_noDesk rfl rfl hdd hb (Nat.le_of_ble_eq_true rfl) (fun r G3 hz => ?_) hkx
  obtain ⟨y2, rfl, h⟩ := hk r G3 hz
  refine z_iconst (x := 1) (pc' := 11) dX12_units_10 (by decide) rfl ?_
  obtain ⟨h1, h⟩ := h
  obtain ⟨d1, b1, Qz, hm, hdd, hb, hkx, hk⟩ := h
  refine z_callV (Y := mX12_throwsIf) (n := 2) (as := [.int y2, .int 1]) (st := []) (pc' := 14) (ci := 13) (q := q0) hm dX12_units_11 kX12_321 vX12_throwsIf rfl rfl (by decide) rfl h1 hdd hb (Nat.le_of_ble_eq_true rfl) (fun r G6 hz => ?_) hkx
  obtain ⟨y5, rfl, h⟩ := hk r G6 hz
  refine z_if_eq (pt := 21) (pc' := 17) dX12_units_14 (by decide) rfl (fun hc => ?_) (fun hc => ?_)
  · have h := h.1 hc
    refine z_aload_n (pc' := 22) dX12_units_21 rfl rfl ?_
    refine z_iload_n (pc' := 23) dX12_units_22 rfl rfl ?_
    refine z_iload_n (pc' := 24) dX12_units_23 rfl rfl ?_
    obtain ⟨h1, h⟩ := h
    obtain ⟨d1, b1, Qz, hm, hdd, hb, hkx, hk⟩ := h
    refine z_callV (Y := mX12_unitsOf) (n := 2) (as := [.int x1, .int x2]) (st := []) (pc' := 27) (ci := 13) (q := q0) hm dX12_units_24 kX12_400 vX12_unitsOf rfl rfl (by decide) rfl h1 hdd hb (Nat.le_of_ble_eq_true rfl) (fun r G9 hz => ?_) hkx
    obtain ⟨y8, rfl, h⟩ := hk r G9 hz
    exact z_iret dX12_units_27 rfl h
  · have h := h.2 hc
    refine z_iconst (x := 0) (pc' := 18) dX12_units_17 (by decide) rfl ?_
    refine z_goto (pc' := 27) dX12_units_18 (by decide) ?_
    exact z_iret dX12_units_27 rfl h
def wp_X12_unitsOf_0 (E : ZE) (l : Launch) (d b : Nat) (G0 : ZG) (Q : ZQ) (k : Nat) (q0 : Nat) (x1 : Int32) (x2 : Int32) (G : ZG) : Prop :=
  zob G q0 13 ∧
  (zar G (zrv G q0 46) 0 ∨ zrd G (zrv G q0 46) .int) ∧ vp_in x1 (zln G (zrv G q0 46)) ∧
  zW E l mX12_unitsOf d b G0 Q k 13 [some (.ref q0), some (.int x1), some (.int x2), some (.int (8 * (ziv G (zrv G q0 46) x1.toNatClampNeg))), some (.int 0)] [] G
theorem wpt_X12_unitsOf_0 {E : ZE} {l : Launch} {d b : Nat} {G0 : ZG} {Q : ZQ} {k : Nat} {q0 : Nat} {x1 : Int32} {x2 : Int32} {G : ZG} (h : wp_X12_unitsOf_0 E l d b G0 Q k q0 x1 x2 G) : zW E l mX12_unitsOf d b G0 Q k 0 [some (.ref q0), some (.int x1), some (.int x2), none, none] [] G := by
  unfold wp_X12_unitsOf_0 at h
  refine z_bipush (x := 8) (pc' := 2) dX12_unitsOf_0 (by decide) rfl ?_
  refine z_aload_n (pc' := 3) dX12_unitsOf_2 rfl rfl ?_
  obtain ⟨h1, h⟩ := h
  refine z_getR (ci := 13) (kf := 46) (pc' := 6) dX12_unitsOf_3 kX12_94 (Or.inl rfl) (by decide) (by decide) rfl rfl h1 ?_
  refine z_iload_n (pc' := 7) dX12_unitsOf_6 rfl rfl ?_
  obtain ⟨h1, h2, h⟩ := h
  refine z_iald (pc' := 8) dX12_unitsOf_7 rfl h1 h2 ?_
  refine z_imul (pc' := 9) dX12_unitsOf_8 rfl rfl ?_
  refine z_istore_n (pc' := 10) dX12_unitsOf_9 (by decide) rfl ?_
  refine z_iconst (x := 0) (pc' := 11) dX12_unitsOf_10 (by decide) rfl ?_
  refine z_istore (pc' := 13) dX12_unitsOf_11 (by decide) rfl ?_
  exact z_dr (ls' := [some (.ref q0), some (.int x1), some (.int x2), some (.int (8 * (ziv G (zrv G q0 46) x1.toNatClampNeg))), some (.int 0)]) ⟨rfl, rfl, rfl, rfl, rfl, trivial⟩ h
def wp_X12_unitsOf_13 (E : ZE) (l : Launch) (d b : Nat) (G0 : ZG) (Q : ZQ) (k : Nat) (q0 : Nat) (x1 : Int32) (x2 : Int32) (x3 : Int32) (x4 : Int32) (G : ZG) : Prop :=
  zob G q0 13 ∧
  (((ziv G q0 52) ≤ x4 →
    xcI E l mJ9_max_7cf53 d [.int 0, .int x3] G k (fun X G9 => Q (.inr X) G9) (fun y1 G2 k3 =>
    Q (.inl (some (.int y1))) G2)) ∧
  (¬ ((ziv G q0 52) ≤ x4) →
    zob G q0 13 ∧
    (zar G (zrv G q0 47) 0 ∨ zrd G (zrv G q0 47) .int) ∧ vp_in x4 (zln G (zrv G q0 47)) ∧
    ((¬ (ziv G (zrv G q0 47) x4.toNatClampNeg) = x1 →
      zW E l mX12_unitsOf d b G0 Q k 13 [some (.ref q0), some (.int x1), some (.int x2), some (.int x3), some (.int (x4 + 1))] [] G) ∧
    (¬ (¬ (ziv G (zrv G q0 47) x4.toNatClampNeg) = x1) →
      zob G q0 13 ∧
      (zar G (zrv G q0 49) 0 ∨ zrd G (zrv G q0 49) .int) ∧ vp_in x4 (zln G (zrv G q0 49)) ∧
      zob G q0 13 ∧
      (zar G (zrv G q0 50) 0 ∨ zrd G (zrv G q0 50) .int) ∧ vp_in x4 (zln G (zrv G q0 50)) ∧
      xcI E l mX12_in d [.int x2, .int (ziv G (zrv G q0 49) x4.toNatClampNeg), .int (ziv G (zrv G q0 50) x4.toNatClampNeg)] G k (fun X G9 => Q (.inr X) G9) (fun y4 G5 k6 =>
      ((y4 = 0 →
        zW E l mX12_unitsOf d b G0 Q k6 13 [some (.ref q0), some (.int x1), some (.int x2), some (.int x3), some (.int (x4 + 1))] [] G5) ∧
      (¬ (y4 = 0) →
        zob G5 q0 13 ∧
        (zar G5 (zrv G5 q0 49) 0 ∨ zrd G5 (zrv G5 q0 49) .int) ∧ vp_in x4 (zln G5 (zrv G5 q0 49)) ∧
        zob G5 q0 13 ∧
        (zar G5 (zrv G5 q0 51) 0 ∨ zrd G5 (zrv G5 q0 51) .int) ∧ vp_in x4 (zln G5 (zrv G5 q0 51)) ∧
        (((ziv G5 (zrv G5 q0 51) x4.toNatClampNeg) ≤ (x2 - (ziv G5 (zrv G5 q0 49) x4.toNatClampNeg)) →
          zob G5 q0 13 ∧
          (zar G5 (zrv G5 q0 48) 0 ∨ zrd G5 (zrv G5 q0 48) .int) ∧ vp_in x4 (zln G5 (zrv G5 q0 48)) ∧
          zW E l mX12_unitsOf d b G0 Q k6 13 [some (.ref q0), some (.int x1), some (.int x2), some (.int (x3 + (8 * (ziv G5 (zrv G5 q0 48) x4.toNatClampNeg)))), some (.int (x4 + 1))] [] G5) ∧
        (¬ ((ziv G5 (zrv G5 q0 51) x4.toNatClampNeg) ≤ (x2 - (ziv G5 (zrv G5 q0 49) x4.toNatClampNeg))) →
          zob G5 q0 13 ∧
          (zar G5 (zrv G5 q0 48) 0 ∨ zrd G5 (zrv G5 q0 48) .int) ∧ vp_in x4 (zln G5 (zrv G5 q0 48)) ∧
          zW E l mX12_unitsOf d b G0 Q k6 13 [some (.ref q0), some (.int x1), some (.int x2), some (.int (x3 + ((-2) * (ziv G5 (zrv G5 q0 48) x4.toNatClampNeg)))), some (.int (x4 + 1))] [] G5)))))))))
theorem wpt_X12_unitsOf_13 {E : ZE} {l : Launch} {d b : Nat} {G0 : ZG} {Q : ZQ} {k : Nat} {q0 : Nat} {x1 : Int32} {x2 : Int32} {x3 : Int32} {x4 : Int32} {G : ZG} (h : wp_X12_unitsOf_13 E l d b G0 Q k q0 x1 x2 x3 x4 G) : zW E l mX12_unitsOf d b G0 Q k 13 [some (.ref q0), some (.int x1), some (.int x2), some (.int x3), some (.int x4)] [] G := by
  unfold wp_X12_unitsOf_13 at h
  refine z_iload (pc' := 15) dX12_unitsOf_13 rfl rfl ?_
  refine z_aload_n (pc' := 16) dX12_unitsOf_15 rfl rfl ?_
  obtain ⟨h1, h⟩ := h
  refine z_getI (ci := 13) (kf := 52) (pc' := 19) dX12_unitsOf_16 kX12_397 (Or.inl rfl) (by decide) (by decide) rfl rfl h1 ?_
  refine z_icmp_ge (pt := 105) (pc' := 22) dX12_unitsOf_19 (by decide) rfl (fun hc => ?_) (fun hc => ?_)
  · have h := h.1 hc
    refine z_iconst (x := 0) (pc' := 106) dX12_unitsOf_105 (by decide) rfl ?_
    refine z_iload_n (pc' := 107) dX12_unitsOf_106 rfl rfl ?_
    obtain ⟨d1, b1, Qz, hm, hdd, hb, hkx, hk⟩ := h
    refine z_callS (Y := mJ9_max_7cf53) (n := 2) (as := [.int 0, .int x3]) (st := []) (pc' := 110) hm dX12_unitsOf_107 kX12_366 sJ9_max_7cf53 rfl rfl hdd hb (Nat.le_of_ble_eq_true rfl) (fun r G2 hz => ?_) hkx
    obtain ⟨y1, rfl, h⟩ := hk r G2 hz
    exact z_iret dX12_unitsOf_110 rfl h
  · have h := h.2 hc
    refine z_aload_n (pc' := 23) dX12_unitsOf_22 rfl rfl ?_
    obtain ⟨h1, h⟩ := h
    refine z_getR (ci := 13) (kf := 47) (pc' := 26) dX12_unitsOf_23 kX12_97 (Or.inl rfl) (by decide) (by decide) rfl rfl h1 ?_
    refine z_iload (pc' := 28) dX12_unitsOf_26 rfl rfl ?_
    obtain ⟨h1, h2, h⟩ := h
    refine z_iald (pc' := 29) dX12_unitsOf_28 rfl h1 h2 ?_
    refine z_iload_n (pc' := 30) dX12_unitsOf_29 rfl rfl ?_
    refine z_icmp_ne (pt := 99) (pc' := 33) dX12_unitsOf_30 (by decide) rfl (fun hc => ?_) (fun hc => ?_)
    · have h := h.1 hc
      refine z_iinc (y := x4 + 1) (pc' := 102) dX12_unitsOf_99 rfl (zinc_1 _) (by decide) rfl ?_
      refine z_goto (pc' := 13) dX12_unitsOf_102 (by decide) ?_
      exact z_dr (ls' := [some (.ref q0), some (.int x1), some (.int x2), some (.int x3), some (.int (x4 + 1))]) ⟨rfl, rfl, rfl, rfl, rfl, trivial⟩ h
    · have h := h.2 hc
      refine z_iload_n (pc' := 34) dX12_unitsOf_33 rfl rfl ?_
      refine z_aload_n (pc' := 35) dX12_unitsOf_34 rfl rfl ?_
      obtain ⟨h1, h⟩ := h
      refine z_getR (ci := 13) (kf := 49) (pc' := 38) dX12_unitsOf_35 kX12_103 (Or.inl rfl) (by decide) (by decide) rfl rfl h1 ?_
      refine z_iload (pc' := 40) dX12_unitsOf_38 rfl rfl ?_
      obtain ⟨h1, h2, h⟩ := h
      refine z_iald (pc' := 41) dX12_unitsOf_40 rfl h1 h2 ?_
      refine z_aload_n (pc' := 42) dX12_unitsOf_41 rfl rfl ?_
      obtain ⟨h1, h⟩ := h
      refine z_getR (ci := 13) (kf := 50) (pc' := 45) dX12_unitsOf_42 kX12_106 (Or.inl rfl) (by decide) (by decide) rfl rfl h1 ?_
      refine z_iload (pc' := 47) dX12_unitsOf_45 rfl rfl ?_
      obtain ⟨h1, h2, h⟩ := h
      refine z_iald (pc' := 48) dX12_unitsOf_47 rfl h1 h2 ?_
      obtain ⟨d1, b1, Qz, hm, hdd, hb, hkx, hk⟩ := h
      refine z_callS (Y := mX12_in) (n := 3) (as := [.int x2, .int (ziv G (zrv G q0 49) x4.toNatClampNeg), .int (ziv G (zrv G q0 50) x4.toNatClampNeg)]) (st := []) (pc' := 51) hm dX12_unitsOf_48 kX12_317 sX12_in rfl rfl hdd hb (Nat.le_of_ble_eq_true rfl) (fun r G5 hz => ?_) hkx
      obtain ⟨y4, rfl, h⟩ := hk r G5 hz
      refine z_if_eq (pt := 99) (pc' := 54) dX12_unitsOf_51 (by decide) rfl (fun hc => ?_) (fun hc => ?_)
      · have h := h.1 hc
        refine z_iinc (y := x4 + 1) (pc' := 102) dX12_unitsOf_99 rfl (zinc_1 _) (by decide) rfl ?_
        refine z_goto (pc' := 13) dX12_unitsOf_102 (by decide) ?_
        exact z_dr (ls' := [some (.ref q0), some (.int x1), some (.int x2), some (.int x3), some (.int (x4 + 1))]) ⟨rfl, rfl, rfl, rfl, rfl, trivial⟩ h
      · have h := h.2 hc
        refine z_iload_n (pc' := 55) dX12_unitsOf_54 rfl rfl ?_
        refine z_iload_n (pc' := 56) dX12_unitsOf_55 rfl rfl ?_
        refine z_aload_n (pc' := 57) dX12_unitsOf_56 rfl rfl ?_
        obtain ⟨h1, h⟩ := h
        refine z_getR (ci := 13) (kf := 49) (pc' := 60) dX12_unitsOf_57 kX12_103 (Or.inl rfl) (by decide) (by decide) rfl rfl h1 ?_
        refine z_iload (pc' := 62) dX12_unitsOf_60 rfl rfl ?_
        obtain ⟨h1, h2, h⟩ := h
        refine z_iald (pc' := 63) dX12_unitsOf_62 rfl h1 h2 ?_
        refine z_isub (pc' := 64) dX12_unitsOf_63 rfl rfl ?_
        refine z_aload_n (pc' := 65) dX12_unitsOf_64 rfl rfl ?_
        obtain ⟨h1, h⟩ := h
        refine z_getR (ci := 13) (kf := 51) (pc' := 68) dX12_unitsOf_65 kX12_109 (Or.inl rfl) (by decide) (by decide) rfl rfl h1 ?_
        refine z_iload (pc' := 70) dX12_unitsOf_68 rfl rfl ?_
        obtain ⟨h1, h2, h⟩ := h
        refine z_iald (pc' := 71) dX12_unitsOf_70 rfl h1 h2 ?_
        refine z_icmp_ge (pt := 87) (pc' := 74) dX12_unitsOf_71 (by decide) rfl (fun hc => ?_) (fun hc => ?_)
        · have h := h.1 hc
          refine z_bipush (x := 8) (pc' := 89) dX12_unitsOf_87 (by decide) rfl ?_
          refine z_aload_n (pc' := 90) dX12_unitsOf_89 rfl rfl ?_
          obtain ⟨h1, h⟩ := h
          refine z_getR (ci := 13) (kf := 48) (pc' := 93) dX12_unitsOf_90 kX12_100 (Or.inl rfl) (by decide) (by decide) rfl rfl h1 ?_
          refine z_iload (pc' := 95) dX12_unitsOf_93 rfl rfl ?_
          obtain ⟨h1, h2, h⟩ := h
          refine z_iald (pc' := 96) dX12_unitsOf_95 rfl h1 h2 ?_
          refine z_imul (pc' := 97) dX12_unitsOf_96 rfl rfl ?_
          refine z_iadd (pc' := 98) dX12_unitsOf_97 rfl rfl ?_
          refine z_istore_n (pc' := 99) dX12_unitsOf_98 (by decide) rfl ?_
          refine z_iinc (y := x4 + 1) (pc' := 102) dX12_unitsOf_99 rfl (zinc_1 _) (by decide) rfl ?_
          refine z_goto (pc' := 13) dX12_unitsOf_102 (by decide) ?_
          exact z_dr (ls' := [some (.ref q0), some (.int x1), some (.int x2), some (.int (x3 + (8 * (ziv G5 (zrv G5 q0 48) x4.toNatClampNeg)))), some (.int (x4 + 1))]) ⟨rfl, rfl, rfl, rfl, rfl, trivial⟩ h
        · have h := h.2 hc
          refine z_bipush (x := (-2)) (pc' := 76) dX12_unitsOf_74 (by decide) rfl ?_
          refine z_aload_n (pc' := 77) dX12_unitsOf_76 rfl rfl ?_
          obtain ⟨h1, h⟩ := h
          refine z_getR (ci := 13) (kf := 48) (pc' := 80) dX12_unitsOf_77 kX12_100 (Or.inl rfl) (by decide) (by decide) rfl rfl h1 ?_
          refine z_iload (pc' := 82) dX12_unitsOf_80 rfl rfl ?_
          obtain ⟨h1, h2, h⟩ := h
          refine z_iald (pc' := 83) dX12_unitsOf_82 rfl h1 h2 ?_
          refine z_imul (pc' := 84) dX12_unitsOf_83 rfl rfl ?_
          refine z_goto (pc' := 97) dX12_unitsOf_84 (by decide) ?_
          refine z_iadd (pc' := 98) dX12_unitsOf_97 rfl rfl ?_
          refine z_istore_n (pc' := 99) dX12_unitsOf_98 (by decide) rfl ?_
          refine z_iinc (y := x4 + 1) (pc' := 102) dX12_unitsOf_99 rfl (zinc_1 _) (by decide) rfl ?_
          refine z_goto (pc' := 13) dX12_unitsOf_102 (by decide) ?_
          exact z_dr (ls' := [some (.ref q0), some (.int x1), some (.int x2), some (.int (x3 + ((-2) * (ziv G5 (zrv G5 q0 48) x4.toNatClampNeg)))), some (.int (x4 + 1))]) ⟨rfl, rfl, rfl, rfl, rfl, trivial⟩ h
def wp_X12_uses_0 (E : ZE) (l : Launch) (d b : Nat) (G0 : ZG) (Q : ZQ) (k : Nat) (q0 : Nat) (G : ZG) : Prop :=
  zob G q0 13 ∧
  ∀ G1, G1 = zsi G q0 0 0 →
  zob G1 q0 13 ∧
  zob G1 q0 13 ∧
  ∀ G2, G2 = zsi G1 q0 5 (ziv G1 q0 3) →
  zob G2 q0 13 ∧
  ∀ G3, G3 = zsi G2 q0 3 0 →
  zob G3 q0 13 ∧
  ∀ G4, G4 = zsi G3 q0 4 0 →
  Q (.inl none) G4
theorem wpt_X12_uses_0 {E : ZE} {l : Launch} {d b : Nat} {G0 : ZG} {Q : ZQ} {k : Nat} {q0 : Nat} {G : ZG} (h : wp_X12_uses_0 E l d b G0 Q k q0 G) : zW E l mX12_uses d b G0 Q k 0 [some (.ref q0)] [] G := by
  unfold wp_X12_uses_0 at h
  refine z_aload_n (pc' := 1) dX12_uses_0 rfl rfl ?_
  refine z_iconst (x := 0) (pc' := 2) dX12_uses_1 (by decide) rfl ?_
  obtain ⟨h1, h⟩ := h
  obtain ⟨G1, hG⟩ : ∃ z, z = zsi G q0 0 0 := ⟨_, rfl⟩
  have h := h _ hG
  refine z_putI (ci := 13) (kf := 0) (pc' := 5) dX12_uses_2 kX12_178 (Or.inl rfl) (by decide) (by decide) rfl (Or.inl rfl) rfl h1 (zok_int _) ?_
  refine z_st hG ?_
  refine z_aload_n (pc' := 6) dX12_uses_5 rfl rfl ?_
  refine z_aload_n (pc' := 7) dX12_uses_6 rfl rfl ?_
  obtain ⟨h1, h⟩ := h
  refine z_getI (ci := 13) (kf := 3) (pc' := 10) dX12_uses_7 kX12_181 (Or.inl rfl) (by decide) (by decide) rfl rfl h1 ?_
  obtain ⟨h1, h⟩ := h
  obtain ⟨G2, hG⟩ : ∃ z, z = zsi G1 q0 5 (ziv G1 q0 3) := ⟨_, rfl⟩
  have h := h _ hG
  refine z_putI (ci := 13) (kf := 5) (pc' := 13) dX12_uses_10 kX12_184 (Or.inl rfl) (by decide) (by decide) rfl (Or.inl rfl) rfl h1 (zok_int _) ?_
  refine z_st hG ?_
  refine z_aload_n (pc' := 14) dX12_uses_13 rfl rfl ?_
  refine z_iconst (x := 0) (pc' := 15) dX12_uses_14 (by decide) rfl ?_
  obtain ⟨h1, h⟩ := h
  obtain ⟨G3, hG⟩ : ∃ z, z = zsi G2 q0 3 0 := ⟨_, rfl⟩
  have h := h _ hG
  refine z_putI (ci := 13) (kf := 3) (pc' := 18) dX12_uses_15 kX12_181 (Or.inl rfl) (by decide) (by decide) rfl (Or.inl rfl) rfl h1 (zok_int _) ?_
  refine z_st hG ?_
  refine z_aload_n (pc' := 19) dX12_uses_18 rfl rfl ?_
  refine z_iconst (x := 0) (pc' := 20) dX12_uses_19 (by decide) rfl ?_
  obtain ⟨h1, h⟩ := h
  obtain ⟨G4, hG⟩ : ∃ z, z = zsi G3 q0 4 0 := ⟨_, rfl⟩
  have h := h _ hG
  refine z_putI (ci := 13) (kf := 4) (pc' := 23) dX12_uses_20 kX12_187 (Or.inl rfl) (by decide) (by decide) rfl (Or.inl rfl) rfl h1 (zok_int _) ?_
  refine z_st hG ?_
  exact z_vret dX12_uses_23 rfl h
def wp_X12_valid_0 (E : ZE) (l : Launch) (d b : Nat) (G0 : ZG) (Q : ZQ) (k : Nat) (q0 : Nat) (x1 : Int32) (x2 : Int32) (G : ZG) : Prop :=
  zob G q0 13 ∧
  ∀ G1, G1 = zsi G q0 0 0 →
  zob G1 q0 13 ∧
  xcI E l mX12_nobody d [.ref q0, .int x1] G1 k (fun X G9 => Q (.inr X) G9) (fun y2 G3 k4 =>
  zob G3 q0 13 ∧
  xcI E l mX12_throwsIf d [.ref q0, .int y2, .int 1] G3 k4 (fun X G9 => Q (.inr X) G9) (fun y5 G6 k7 =>
  ((y5 = 0 →
    zob G6 q0 13 ∧
    xcI E l mX12_validOf d [.ref q0, .int x1, .int x2] G6 k7 (fun X G9 => Q (.inr X) G9) (fun y8 G9 k10 =>
    Q (.inl (some (.int y8))) G9)) ∧
  (¬ (y5 = 0) →
    Q (.inl (some (.int 0))) G6))))
theorem wpt_X12_valid_0 {E : ZE} {l : Launch} {d b : Nat} {G0 : ZG} {Q : ZQ} {k : Nat} {q0 : Nat} {x1 : Int32} {x2 : Int32} {G : ZG} (h : wp_X12_valid_0 E l d b G0 Q k q0 x1 x2 G) : zW E l mX12_valid d b G0 Q k 0 [some (.ref q0), some (.int x1), some (.int x2)] [] G := by
  unfold wp_X12_valid_0 at h
  refine z_aload_n (pc' := 1) dX12_valid_0 rfl rfl ?_
  refine z_iconst (x := 0) (pc' := 2) dX12_valid_1 (by decide) rfl ?_
  obtain ⟨h1, h⟩ := h
  obtain ⟨G1, hG⟩ : ∃ z, z = zsi G q0 0 0 := ⟨_, rfl⟩
  have h := h _ hG
  refine z_putI (ci := 13) (kf := 0) (pc' := 5) dX12_valid_2 kX12_178 (Or.inl rfl) (by decide) (by decide) rfl (Or.inl rfl) rfl h1 (zok_int _) ?_
  refine z_st hG ?_
  refine z_aload_n (pc' := 6) dX12_valid_5 rfl rfl ?_
  refine z_aload_n (pc' := 7) dX12_valid_6 rfl rfl ?_
  refine z_iload_n (pc' := 8) dX12_valid_7 rfl rfl ?_
  obtain ⟨h1, h⟩ := h
  obtain ⟨d1, b1, Qz, hm, hdd, hb, hkx, hk⟩ := h
  refine z_callV (Y := mX12_nobody) (n := 1) (as := [.int x1]) (st := [.ref q0]) (pc' := 11) (ci := 13) (q := q0) hm dX12_valid_8 kX12_385 vX12_nobody rfl rfl (by decide) rfl h1 hdd hb (Nat.le_of_ble_eq_true rfl) (fun r G3 hz => ?_) hkx
  obtain ⟨y2, rfl, h⟩ := hk r G3 hz
  refine z_iconst (x := 1) (pc' := 12) dX12_valid_11 (by decide) rfl ?_
  obtain ⟨h1, h⟩ := h
  obtain ⟨d1, b1, Qz, hm, hdd, hb, hkx, hk⟩ := h
  refine z_callV (Y := mX12_throwsIf) (n := 2) (as := [.int y2, .int 1]) (st := []) (pc' := 15) (ci := 13) (q := q0) hm dX12_valid_12 kX12_321 vX12_throwsIf rfl rfl (by decide) rfl h1 hdd hb (Nat.le_of_ble_eq_true rfl) (fun r G6 hz => ?_) hkx
  obtain ⟨y5, rfl, h⟩ := hk r G6 hz
  refine z_if_eq (pt := 22) (pc' := 18) dX12_valid_15 (by decide) rfl (fun hc => ?_) (fun hc => ?_)
  · have h := h.1 hc
    refine z_aload_n (pc' := 23) dX12_valid_22 rfl rfl ?_
    refine z_iload_n (pc' := 24) dX12_valid_23 rfl rfl ?_
    refine z_iload_n (pc' := 25) dX12_valid_24 rfl rfl ?_
    obtain ⟨h1, h⟩ := h
    obtain ⟨d1, b1, Qz, hm, hdd, hb, hkx, hk⟩ := h
    refine z_callV (Y := mX12_validOf) (n := 2) (as := [.int x1, .int x2]) (st := []) (pc' := 28) (ci := 13) (q := q0) hm dX12_valid_25 kX12_337 vX12_validOf rfl rfl (by decide) rfl h1 hdd hb (Nat.le_of_ble_eq_true rfl) (fun r G9 hz => ?_) hkx
    obtain ⟨y8, rfl, h⟩ := hk r G9 hz
    exact z_iret dX12_valid_28 rfl h
  · have h := h.2 hc
    refine z_iconst (x := 0) (pc' := 19) dX12_valid_18 (by decide) rfl ?_
    refine z_goto (pc' := 28) dX12_valid_19 (by decide) ?_
    exact z_iret dX12_valid_28 rfl h
def wp_X12_validOf_0 (E : ZE) (l : Launch) (d b : Nat) (G0 : ZG) (Q : ZQ) (k : Nat) (q0 : Nat) (x1 : Int32) (x2 : Int32) (G : ZG) : Prop :=
  zW E l mX12_validOf d b G0 Q k 5 [some (.ref q0), some (.int x1), some (.int x2), some (.int 0), some (.int 0)] [] G
theorem wpt_X12_validOf_0 {E : ZE} {l : Launch} {d b : Nat} {G0 : ZG} {Q : ZQ} {k : Nat} {q0 : Nat} {x1 : Int32} {x2 : Int32} {G : ZG} (h : wp_X12_validOf_0 E l d b G0 Q k q0 x1 x2 G) : zW E l mX12_validOf d b G0 Q k 0 [some (.ref q0), some (.int x1), some (.int x2), none, none] [] G := by
  unfold wp_X12_validOf_0 at h
  refine z_iconst (x := 0) (pc' := 1) dX12_validOf_0 (by decide) rfl ?_
  refine z_istore_n (pc' := 2) dX12_validOf_1 (by decide) rfl ?_
  refine z_iconst (x := 0) (pc' := 3) dX12_validOf_2 (by decide) rfl ?_
  refine z_istore (pc' := 5) dX12_validOf_3 (by decide) rfl ?_
  exact z_dr (ls' := [some (.ref q0), some (.int x1), some (.int x2), some (.int 0), some (.int 0)]) ⟨rfl, rfl, rfl, rfl, rfl, trivial⟩ h
def wp_X12_validOf_5 (E : ZE) (l : Launch) (d b : Nat) (G0 : ZG) (Q : ZQ) (k : Nat) (q0 : Nat) (x1 : Int32) (x2 : Int32) (x3 : Int32) (x4 : Int32) (G : ZG) : Prop :=
  zob G q0 13 ∧
  (((ziv G q0 71) ≤ x4 →
    Q (.inl (some (.int x3))) G) ∧
  (¬ ((ziv G q0 71) ≤ x4) →
    zob G q0 13 ∧
    (zar G (zrv G q0 67) 0 ∨ zrd G (zrv G q0 67) .int) ∧ vp_in x4 (zln G (zrv G q0 67)) ∧
    ((¬ (ziv G (zrv G q0 67) x4.toNatClampNeg) = x1 →
      zW E l mX12_validOf d b G0 Q k 5 [some (.ref q0), some (.int x1), some (.int x2), some (.int (x3 + 0)), some (.int (x4 + 1))] [] G) ∧
    (¬ (¬ (ziv G (zrv G q0 67) x4.toNatClampNeg) = x1) →
      zob G q0 13 ∧
      (zar G (zrv G q0 68) 0 ∨ zrd G (zrv G q0 68) .int) ∧ vp_in x4 (zln G (zrv G q0 68)) ∧
      ((x2 < (ziv G (zrv G q0 68) x4.toNatClampNeg) →
        zW E l mX12_validOf d b G0 Q k 5 [some (.ref q0), some (.int x1), some (.int x2), some (.int (x3 + 0)), some (.int (x4 + 1))] [] G) ∧
      (¬ (x2 < (ziv G (zrv G q0 68) x4.toNatClampNeg)) →
        zob G q0 13 ∧
        (zar G (zrv G q0 69) 0 ∨ zrd G (zrv G q0 69) .int) ∧ vp_in x4 (zln G (zrv G q0 69)) ∧
        (((ziv G (zrv G q0 69) x4.toNatClampNeg) ≤ x2 →
          zW E l mX12_validOf d b G0 Q k 5 [some (.ref q0), some (.int x1), some (.int x2), some (.int (x3 + 0)), some (.int (x4 + 1))] [] G) ∧
        (¬ ((ziv G (zrv G q0 69) x4.toNatClampNeg) ≤ x2) →
          zW E l mX12_validOf d b G0 Q k 5 [some (.ref q0), some (.int x1), some (.int x2), some (.int (x3 + 1)), some (.int (x4 + 1))] [] G))))))))
theorem wpt_X12_validOf_5 {E : ZE} {l : Launch} {d b : Nat} {G0 : ZG} {Q : ZQ} {k : Nat} {q0 : Nat} {x1 : Int32} {x2 : Int32} {x3 : Int32} {x4 : Int32} {G : ZG} (h : wp_X12_validOf_5 E l d b G0 Q k q0 x1 x2 x3 x4 G) : zW E l mX12_validOf d b G0 Q k 5 [some (.ref q0), some (.int x1), some (.int x2), some (.int x3), some (.int x4)] [] G := by
  unfold wp_X12_validOf_5 at h
  refine z_iload (pc' := 7) dX12_validOf_5 rfl rfl ?_
  refine z_aload_n (pc' := 8) dX12_validOf_7 rfl rfl ?_
  obtain ⟨h1, h⟩ := h
  refine z_getI (ci := 13) (kf := 71) (pc' := 11) dX12_validOf_8 kX12_415 (Or.inl rfl) (by decide) (by decide) rfl rfl h1 ?_
  refine z_icmp_ge (pt := 61) (pc' := 14) dX12_validOf_11 (by decide) rfl (fun hc => ?_) (fun hc => ?_)
  · have h := h.1 hc
    refine z_iload_n (pc' := 62) dX12_validOf_61 rfl rfl ?_
    exact z_iret dX12_validOf_62 rfl h
  · have h := h.2 hc
    refine z_iload_n (pc' := 15) dX12_validOf_14 rfl rfl ?_
    refine z_aload_n (pc' := 16) dX12_validOf_15 rfl rfl ?_
    obtain ⟨h1, h⟩ := h
    refine z_getR (ci := 13) (kf := 67) (pc' := 19) dX12_validOf_16 kX12_151 (Or.inl rfl) (by decide) (by decide) rfl rfl h1 ?_
    refine z_iload (pc' := 21) dX12_validOf_19 rfl rfl ?_
    obtain ⟨h1, h2, h⟩ := h
    refine z_iald (pc' := 22) dX12_validOf_21 rfl h1 h2 ?_
    refine z_iload_n (pc' := 23) dX12_validOf_22 rfl rfl ?_
    refine z_icmp_ne (pt := 52) (pc' := 26) dX12_validOf_23 (by decide) rfl (fun hc => ?_) (fun hc => ?_)
    · have h := h.1 hc
      refine z_iconst (x := 0) (pc' := 53) dX12_validOf_52 (by decide) rfl ?_
      refine z_iadd (pc' := 54) dX12_validOf_53 rfl rfl ?_
      refine z_istore_n (pc' := 55) dX12_validOf_54 (by decide) rfl ?_
      refine z_iinc (y := x4 + 1) (pc' := 58) dX12_validOf_55 rfl (zinc_1 _) (by decide) rfl ?_
      refine z_goto (pc' := 5) dX12_validOf_58 (by decide) ?_
      exact z_dr (ls' := [some (.ref q0), some (.int x1), some (.int x2), some (.int (x3 + 0)), some (.int (x4 + 1))]) ⟨rfl, rfl, rfl, rfl, rfl, trivial⟩ h
    · have h := h.2 hc
      refine z_aload_n (pc' := 27) dX12_validOf_26 rfl rfl ?_
      obtain ⟨h1, h⟩ := h
      refine z_getR (ci := 13) (kf := 68) (pc' := 30) dX12_validOf_27 kX12_154 (Or.inl rfl) (by decide) (by decide) rfl rfl h1 ?_
      refine z_iload (pc' := 32) dX12_validOf_30 rfl rfl ?_
      obtain ⟨h1, h2, h⟩ := h
      refine z_iald (pc' := 33) dX12_validOf_32 rfl h1 h2 ?_
      refine z_iload_n (pc' := 34) dX12_validOf_33 rfl rfl ?_
      refine z_icmp_gt (pt := 52) (pc' := 37) dX12_validOf_34 (by decide) rfl (fun hc => ?_) (fun hc => ?_)
      · have h := h.1 hc
        refine z_iconst (x := 0) (pc' := 53) dX12_validOf_52 (by decide) rfl ?_
        refine z_iadd (pc' := 54) dX12_validOf_53 rfl rfl ?_
        refine z_istore_n (pc' := 55) dX12_validOf_54 (by decide) rfl ?_
        refine z_iinc (y := x4 + 1) (pc' := 58) dX12_validOf_55 rfl (zinc_1 _) (by decide) rfl ?_
        refine z_goto (pc' := 5) dX12_validOf_58 (by decide) ?_
        exact z_dr (ls' := [some (.ref q0), some (.int x1), some (.int x2), some (.int (x3 + 0)), some (.int (x4 + 1))]) ⟨rfl, rfl, rfl, rfl, rfl, trivial⟩ h
      · have h := h.2 hc
        refine z_iload_n (pc' := 38) dX12_validOf_37 rfl rfl ?_
        refine z_aload_n (pc' := 39) dX12_validOf_38 rfl rfl ?_
        obtain ⟨h1, h⟩ := h
        refine z_getR (ci := 13) (kf := 69) (pc' := 42) dX12_validOf_39 kX12_157 (Or.inl rfl) (by decide) (by decide) rfl rfl h1 ?_
        refine z_iload (pc' := 44) dX12_validOf_42 rfl rfl ?_
        obtain ⟨h1, h2, h⟩ := h
        refine z_iald (pc' := 45) dX12_validOf_44 rfl h1 h2 ?_
        refine z_icmp_ge (pt := 52) (pc' := 48) dX12_validOf_45 (by decide) rfl (fun hc => ?_) (fun hc => ?_)
        · have h := h.1 hc
          refine z_iconst (x := 0) (pc' := 53) dX12_validOf_52 (by decide) rfl ?_
          refine z_iadd (pc' := 54) dX12_validOf_53 rfl rfl ?_
          refine z_istore_n (pc' := 55) dX12_validOf_54 (by decide) rfl ?_
          refine z_iinc (y := x4 + 1) (pc' := 58) dX12_validOf_55 rfl (zinc_1 _) (by decide) rfl ?_
          refine z_goto (pc' := 5) dX12_validOf_58 (by decide) ?_
          exact z_dr (ls' := [some (.ref q0), some (.int x1), some (.int x2), some (.int (x3 + 0)), some (.int (x4 + 1))]) ⟨rfl, rfl, rfl, rfl, rfl, trivial⟩ h
        · have h := h.2 hc
          refine z_iconst (x := 1) (pc' := 49) dX12_validOf_48 (by decide) rfl ?_
          refine z_goto (pc' := 53) dX12_validOf_49 (by decide) ?_
          refine z_iadd (pc' := 54) dX12_validOf_53 rfl rfl ?_
          refine z_istore_n (pc' := 55) dX12_validOf_54 (by decide) rfl ?_
          refine z_iinc (y := x4 + 1) (pc' := 58) dX12_validOf_55 rfl (zinc_1 _) (by decide) rfl ?_
          refine z_goto (pc' := 5) dX12_validOf_58 (by decide) ?_
          exact z_dr (ls' := [some (.ref q0), some (.int x1), some (.int x2), some (.int (x3 + 1)), some (.int (x4 + 1))]) ⟨rfl, rfl, rfl, rfl, rfl, trivial⟩ h
def wp_X12_waits_0 (E : ZE) (l : Launch) (d b : Nat) (G0 : ZG) (Q : ZQ) (k : Nat) (q0 : Nat) (x1 : Int32) (x2 : Int32) (G : ZG) : Prop :=
  zob G q0 13 ∧
  ∀ G1, G1 = zsi G q0 0 0 →
  xcI E l mX12_in d [.int x1, .int 0, .int 3] G1 k (fun X G9 => Q (.inr X) G9) (fun y2 G3 k4 =>
  ((¬ y2 = 0 →
    zob G3 q0 13 ∧
    xcI E l mX12_throwsIf d [.ref q0, .int 0, .int 1] G3 k4 (fun X G9 => Q (.inr X) G9) (fun y5 G6 k7 =>
    ((y5 = 0 →
      zW E l mX12_waits d b G0 Q k7 34 [some (.ref q0), some (.int x1), some (.int x2), some (.int 0), some (.int 0), none, none, none, none] [] G6) ∧
    (¬ (y5 = 0) →
      Q (.inl (some (.int 0))) G6)))) ∧
  (¬ (¬ y2 = 0) →
    zob G3 q0 13 ∧
    xcI E l mX12_throwsIf d [.ref q0, .int 1, .int 1] G3 k4 (fun X G9 => Q (.inr X) G9) (fun y8 G9 k10 =>
    ((y8 = 0 →
      zW E l mX12_waits d b G0 Q k10 34 [some (.ref q0), some (.int x1), some (.int x2), some (.int 0), some (.int 0), none, none, none, none] [] G9) ∧
    (¬ (y8 = 0) →
      Q (.inl (some (.int 0))) G9))))))
theorem wpt_X12_waits_0 {E : ZE} {l : Launch} {d b : Nat} {G0 : ZG} {Q : ZQ} {k : Nat} {q0 : Nat} {x1 : Int32} {x2 : Int32} {G : ZG} (h : wp_X12_waits_0 E l d b G0 Q k q0 x1 x2 G) : zW E l mX12_waits d b G0 Q k 0 [some (.ref q0), some (.int x1), some (.int x2), none, none, none, none, none, none] [] G := by
  unfold wp_X12_waits_0 at h
  refine z_aload_n (pc' := 1) dX12_waits_0 rfl rfl ?_
  refine z_iconst (x := 0) (pc' := 2) dX12_waits_1 (by decide) rfl ?_
  obtain ⟨h1, h⟩ := h
  obtain ⟨G1, hG⟩ : ∃ z, z = zsi G q0 0 0 := ⟨_, rfl⟩
  have h := h _ hG
  refine z_putI (ci := 13) (kf := 0) (pc' := 5) dX12_waits_2 kX12_178 (Or.inl rfl) (by decide) (by decide) rfl (Or.inl rfl) rfl h1 (zok_int _) ?_
  refine z_st hG ?_
  refine z_aload_n (pc' := 6) dX12_waits_5 rfl rfl ?_
  refine z_iload_n (pc' := 7) dX12_waits_6 rfl rfl ?_
  refine z_iconst (x := 0) (pc' := 8) dX12_waits_7 (by decide) rfl ?_
  refine z_iconst (x := 3) (pc' := 9) dX12_waits_8 (by decide) rfl ?_
  obtain ⟨d1, b1, Qz, hm, hdd, hb, hkx, hk⟩ := h
  refine z_callS (Y := mX12_in) (n := 3) (as := [.int x1, .int 0, .int 3]) (st := [.ref q0]) (pc' := 12) hm dX12_waits_9 kX12_317 sX12_in rfl rfl hdd hb (Nat.le_of_ble_eq_true rfl) (fun r G3 hz => ?_) hkx
  obtain ⟨y2, rfl, h⟩ := hk r G3 hz
  refine z_if_ne (pt := 19) (pc' := 15) dX12_waits_12 (by decide) rfl (fun hc => ?_) (fun hc => ?_)
  · have h := h.1 hc
    refine z_iconst (x := 0) (pc' := 20) dX12_waits_19 (by decide) rfl ?_
    refine z_iconst (x := 1) (pc' := 21) dX12_waits_20 (by decide) rfl ?_
    obtain ⟨h1, h⟩ := h
    obtain ⟨d1, b1, Qz, hm, hdd, hb, hkx, hk⟩ := h
    refine z_callV (Y := mX12_throwsIf) (n := 2) (as := [.int 0, .int 1]) (st := []) (pc' := 24) (ci := 13) (q := q0) hm dX12_waits_21 kX12_321 vX12_throwsIf rfl rfl (by decide) rfl h1 hdd hb (Nat.le_of_ble_eq_true rfl) (fun r G6 hz => ?_) hkx
    obtain ⟨y5, rfl, h⟩ := hk r G6 hz
    refine z_if_eq (pt := 29) (pc' := 27) dX12_waits_24 (by decide) rfl (fun hc => ?_) (fun hc => ?_)
    · have h := h.1 hc
      refine z_iconst (x := 0) (pc' := 30) dX12_waits_29 (by decide) rfl ?_
      refine z_istore_n (pc' := 31) dX12_waits_30 (by decide) rfl ?_
      refine z_iconst (x := 0) (pc' := 32) dX12_waits_31 (by decide) rfl ?_
      refine z_istore (pc' := 34) dX12_waits_32 (by decide) rfl ?_
      exact z_dr (ls' := [some (.ref q0), some (.int x1), some (.int x2), some (.int 0), some (.int 0), none, none, none, none]) ⟨rfl, rfl, rfl, rfl, rfl, trivial⟩ h
    · have h := h.2 hc
      refine z_iconst (x := 0) (pc' := 28) dX12_waits_27 (by decide) rfl ?_
      exact z_iret dX12_waits_28 rfl h
  · have h := h.2 hc
    refine z_iconst (x := 1) (pc' := 16) dX12_waits_15 (by decide) rfl ?_
    refine z_goto (pc' := 20) dX12_waits_16 (by decide) ?_
    refine z_iconst (x := 1) (pc' := 21) dX12_waits_20 (by decide) rfl ?_
    obtain ⟨h1, h⟩ := h
    obtain ⟨d1, b1, Qz, hm, hdd, hb, hkx, hk⟩ := h
    refine z_callV (Y := mX12_throwsIf) (n := 2) (as := [.int 1, .int 1]) (st := []) (pc' := 24) (ci := 13) (q := q0) hm dX12_waits_21 kX12_321 vX12_throwsIf rfl rfl (by decide) rfl h1 hdd hb (Nat.le_of_ble_eq_true rfl) (fun r G9 hz => ?_) hkx
    obtain ⟨y8, rfl, h⟩ := hk r G9 hz
    refine z_if_eq (pt := 29) (pc' := 27) dX12_waits_24 (by decide) rfl (fun hc => ?_) (fun hc => ?_)
    · have h := h.1 hc
      refine z_iconst (x := 0) (pc' := 30) dX12_waits_29 (by decide) rfl ?_
      refine z_istore_n (pc' := 31) dX12_waits_30 (by decide) rfl ?_
      refine z_iconst (x := 0) (pc' := 32) dX12_waits_31 (by decide) rfl ?_
      refine z_istore (pc' := 34) dX12_waits_32 (by decide) rfl ?_
      exact z_dr (ls' := [some (.ref q0), some (.int x1), some (.int x2), some (.int 0), some (.int 0), none, none, none, none]) ⟨rfl, rfl, rfl, rfl, rfl, trivial⟩ h
    · have h := h.2 hc
      refine z_iconst (x := 0) (pc' := 28) dX12_waits_27 (by decide) rfl ?_
      exact z_iret dX12_waits_28 rfl h
def wp_X12_waits_34 (E : ZE) (l : Launch) (d b : Nat) (G0 : ZG) (Q : ZQ) (k : Nat) (q0 : Nat) (x1 : Int32) (x2 : Int32) (x3 : Int32) (x4 : Int32) (G : ZG) : Prop :=
  zob G q0 13 ∧
  (((ziv G q0 66) ≤ x4 →
    xcI E l mJ9_min_7cf53 d [.int 20, .int x3] G k (fun X G9 => Q (.inr X) G9) (fun y1 G2 k3 =>
    ((¬ y1 = 0 →
      zW E l mX12_waits d b G0 Q k3 159 [some (.ref q0), none, some (.int x2), some (.int x3), some (.int y1), some (.int 0), none, none, none] [] G2) ∧
    (¬ (¬ y1 = 0) →
      Q (.inl (some (.int (-1)))) G2)))) ∧
  (¬ ((ziv G q0 66) ≤ x4) →
    zob G q0 13 ∧
    (zar G (zrv G q0 54) 0 ∨ zrd G (zrv G q0 54) .int) ∧ vp_in x4 (zln G (zrv G q0 54)) ∧
    ((¬ (ziv G (zrv G q0 54) x4.toNatClampNeg) = x1 →
      zW E l mX12_waits d b G0 Q k 34 [some (.ref q0), some (.int x1), some (.int x2), some (.int x3), some (.int (x4 + 1)), none, none, none, none] [] G) ∧
    (¬ (¬ (ziv G (zrv G q0 54) x4.toNatClampNeg) = x1) →
      zob G q0 13 ∧
      xcI E l mX12_now d [.ref q0, .int x4, .int 0] G k (fun X G9 => Q (.inr X) G9) (fun y4 G5 k6 =>
      ((y4 = 7 →
        zW E l mX12_waits d b G0 Q k6 72 [some (.ref q0), some (.int x1), some (.int x2), some (.int x3), some (.int x4), some (.int x3), none, none, none] [] G5) ∧
      (¬ (y4 = 7) →
        zW E l mX12_waits d b G0 Q k6 34 [some (.ref q0), some (.int x1), some (.int x2), some (.int x3), some (.int (x4 + 1)), none, none, none, none] [] G5)))))))
theorem wpt_X12_waits_34 {E : ZE} {l : Launch} {d b : Nat} {G0 : ZG} {Q : ZQ} {k : Nat} {q0 : Nat} {x1 : Int32} {x2 : Int32} {x3 : Int32} {x4 : Int32} {G : ZG} (h : wp_X12_waits_34 E l d b G0 Q k q0 x1 x2 x3 x4 G) : zW E l mX12_waits d b G0 Q k 34 [some (.ref q0), some (.int x1), some (.int x2), some (.int x3), some (.int x4), none, none, none, none] [] G := by
  unfold wp_X12_waits_34 at h
  refine z_iload (pc' := 36) dX12_waits_34 rfl rfl ?_
  refine z_aload_n (pc' := 37) dX12_waits_36 rfl rfl ?_
  obtain ⟨h1, h⟩ := h
  refine z_getI (ci := 13) (kf := 66) (pc' := 40) dX12_waits_37 kX12_412 (Or.inl rfl) (by decide) (by decide) rfl rfl h1 ?_
  refine z_icmp_ge (pt := 141) (pc' := 43) dX12_waits_40 (by decide) rfl (fun hc => ?_) (fun hc => ?_)
  · have h := h.1 hc
    refine z_bipush (x := 20) (pc' := 143) dX12_waits_141 (by decide) rfl ?_
    refine z_iload_n (pc' := 144) dX12_waits_143 rfl rfl ?_
    obtain ⟨d1, b1, Qz, hm, hdd, hb, hkx, hk⟩ := h
    refine z_callS (Y := mJ9_min_7cf53) (n := 2) (as := [.int 20, .int x3]) (st := []) (pc' := 147) hm dX12_waits_144 kX12_369 sJ9_min_7cf53 rfl rfl hdd hb (Nat.le_of_ble_eq_true rfl) (fun r G2 hz => ?_) hkx
    obtain ⟨y1, rfl, h⟩ := hk r G2 hz
    refine z_istore (pc' := 149) dX12_waits_147 (by decide) rfl ?_
    refine z_iload (pc' := 151) dX12_waits_149 rfl rfl ?_
    refine z_if_ne (pt := 156) (pc' := 154) dX12_waits_151 (by decide) rfl (fun hc => ?_) (fun hc => ?_)
    · have h := h.1 hc
      refine z_iconst (x := 0) (pc' := 157) dX12_waits_156 (by decide) rfl ?_
      refine z_istore (pc' := 159) dX12_waits_157 (by decide) rfl ?_
      exact z_dr (ls' := [some (.ref q0), none, some (.int x2), some (.int x3), some (.int y1), some (.int 0), none, none, none]) ⟨rfl, rfl, rfl, rfl, rfl, trivial⟩ h
    · have h := h.2 hc
      refine z_iconst (x := (-1)) (pc' := 155) dX12_waits_154 (by decide) rfl ?_
      exact z_iret dX12_waits_155 rfl h
  · have h := h.2 hc
    refine z_aload_n (pc' := 44) dX12_waits_43 rfl rfl ?_
    obtain ⟨h1, h⟩ := h
    refine z_getR (ci := 13) (kf := 54) (pc' := 47) dX12_waits_44 kX12_115 (Or.inl rfl) (by decide) (by decide) rfl rfl h1 ?_
    refine z_iload (pc' := 49) dX12_waits_47 rfl rfl ?_
    obtain ⟨h1, h2, h⟩ := h
    refine z_iald (pc' := 50) dX12_waits_49 rfl h1 h2 ?_
    refine z_iload_n (pc' := 51) dX12_waits_50 rfl rfl ?_
    refine z_icmp_ne (pt := 135) (pc' := 54) dX12_waits_51 (by decide) rfl (fun hc => ?_) (fun hc => ?_)
    · have h := h.1 hc
      refine z_iinc (y := x4 + 1) (pc' := 138) dX12_waits_135 rfl (zinc_1 _) (by decide) rfl ?_
      refine z_goto (pc' := 34) dX12_waits_138 (by decide) ?_
      exact z_dr (ls' := [some (.ref q0), some (.int x1), some (.int x2), some (.int x3), some (.int (x4 + 1)), none, none, none, none]) ⟨rfl, rfl, rfl, rfl, rfl, trivial⟩ h
    · have h := h.2 hc
      refine z_aload_n (pc' := 55) dX12_waits_54 rfl rfl ?_
      refine z_iload (pc' := 57) dX12_waits_55 rfl rfl ?_
      refine z_iconst (x := 0) (pc' := 58) dX12_waits_57 (by decide) rfl ?_
      obtain ⟨h1, h⟩ := h
      obtain ⟨d1, b1, Qz, hm, hdd, hb, hkx, hk⟩ := h
      refine z_callV (Y := mX12_now) (n := 2) (as := [.int x4, .int 0]) (st := []) (pc' := 61) (ci := 13) (q := q0) hm dX12_waits_58 kX12_434 vX12_now rfl rfl (by decide) rfl h1 hdd hb (Nat.le_of_ble_eq_true rfl) (fun r G5 hz => ?_) hkx
      obtain ⟨y4, rfl, h⟩ := hk r G5 hz
      refine z_bipush (x := 7) (pc' := 63) dX12_waits_61 (by decide) rfl ?_
      refine z_icmp_eq (pt := 69) (pc' := 66) dX12_waits_63 (by decide) rfl (fun hc => ?_) (fun hc => ?_)
      · have h := h.1 hc
        refine z_iload_n (pc' := 70) dX12_waits_69 rfl rfl ?_
        refine z_istore (pc' := 72) dX12_waits_70 (by decide) rfl ?_
        exact z_dr (ls' := [some (.ref q0), some (.int x1), some (.int x2), some (.int x3), some (.int x4), some (.int x3), none, none, none]) ⟨rfl, rfl, rfl, rfl, rfl, rfl, trivial⟩ h
      · have h := h.2 hc
        refine z_goto (pc' := 135) dX12_waits_66 (by decide) ?_
        refine z_iinc (y := x4 + 1) (pc' := 138) dX12_waits_135 rfl (zinc_1 _) (by decide) rfl ?_
        refine z_goto (pc' := 34) dX12_waits_138 (by decide) ?_
        exact z_dr (ls' := [some (.ref q0), some (.int x1), some (.int x2), some (.int x3), some (.int (x4 + 1)), none, none, none, none]) ⟨rfl, rfl, rfl, rfl, rfl, trivial⟩ h
def wp_X12_waits_72 (E : ZE) (l : Launch) (d b : Nat) (G0 : ZG) (Q : ZQ) (k : Nat) (q0 : Nat) (x1 : Int32) (x2 : Int32) (x3 : Int32) (x4 : Int32) (x5 : Int32) (G : ZG) : Prop :=
  ((x5 ≤ 0 →
    zob G q0 13 ∧
    zar G (zrv G q0 82) 0 ∧ vp_in x5 (zln G (zrv G q0 82)) ∧
    ∀ G1, G1 = zsi G (zrv G q0 82) x5.toNatClampNeg x4 →
    zW E l mX12_waits d b G0 Q k 34 [some (.ref q0), some (.int x1), some (.int x2), some (.int (x3 + 1)), some (.int (x4 + 1)), none, none, none, none] [] G1) ∧
  (¬ (x5 ≤ 0) →
    zob G q0 13 ∧
    (zar G (zrv G q0 82) 0 ∨ zrd G (zrv G q0 82) .int) ∧ vp_in (x5 - 1) (zln G (zrv G q0 82)) ∧
    zob G q0 13 ∧
    xcI E l mX12_now d [.ref q0, .int (ziv G (zrv G q0 82) (x5 - 1).toNatClampNeg), .int 3] G k (fun X G9 => Q (.inr X) G9) (fun y2 G3 k4 =>
    zob G3 q0 13 ∧
    xcI E l mX12_now d [.ref q0, .int x4, .int 3] G3 k4 (fun X G9 => Q (.inr X) G9) (fun y5 G6 k7 =>
    ((y2 ≤ y5 →
      zob G6 q0 13 ∧
      zar G6 (zrv G6 q0 82) 0 ∧ vp_in x5 (zln G6 (zrv G6 q0 82)) ∧
      ∀ G8, G8 = zsi G6 (zrv G6 q0 82) x5.toNatClampNeg x4 →
      zW E l mX12_waits d b G0 Q k7 34 [some (.ref q0), some (.int x1), some (.int x2), some (.int (x3 + 1)), some (.int (x4 + 1)), none, none, none, none] [] G8) ∧
    (¬ (y2 ≤ y5) →
      zob G6 q0 13 ∧
      zob G6 q0 13 ∧
      (zar G6 (zrv G6 q0 82) 0 ∨ zrd G6 (zrv G6 q0 82) .int) ∧ vp_in (x5 - 1) (zln G6 (zrv G6 q0 82)) ∧
      zar G6 (zrv G6 q0 82) 0 ∧ vp_in x5 (zln G6 (zrv G6 q0 82)) ∧
      ∀ G9, G9 = zsi G6 (zrv G6 q0 82) x5.toNatClampNeg (ziv G6 (zrv G6 q0 82) (x5 - 1).toNatClampNeg) →
      zW E l mX12_waits d b G0 Q k7 72 [some (.ref q0), some (.int x1), some (.int x2), some (.int x3), some (.int x4), some (.int (x5 + (-1))), none, none, none] [] G9))))))
theorem wpt_X12_waits_72 {E : ZE} {l : Launch} {d b : Nat} {G0 : ZG} {Q : ZQ} {k : Nat} {q0 : Nat} {x1 : Int32} {x2 : Int32} {x3 : Int32} {x4 : Int32} {x5 : Int32} {G : ZG} (h : wp_X12_waits_72 E l d b G0 Q k q0 x1 x2 x3 x4 x5 G) : zW E l mX12_waits d b G0 Q k 72 [some (.ref q0), some (.int x1), some (.int x2), some (.int x3), some (.int x4), some (.int x5), none, none, none] [] G := by
  unfold wp_X12_waits_72 at h
  refine z_iload (pc' := 74) dX12_waits_72 rfl rfl ?_
  refine z_if_le (pt := 123) (pc' := 77) dX12_waits_74 (by decide) rfl (fun hc => ?_) (fun hc => ?_)
  · have h := h.1 hc
    refine z_aload_n (pc' := 124) dX12_waits_123 rfl rfl ?_
    obtain ⟨h1, h⟩ := h
    refine z_getR (ci := 13) (kf := 82) (pc' := 127) dX12_waits_124 kX12_175 (Or.inl rfl) (by decide) (by decide) rfl rfl h1 ?_
    refine z_iload (pc' := 129) dX12_waits_127 rfl rfl ?_
    refine z_iload (pc' := 131) dX12_waits_129 rfl rfl ?_
    obtain ⟨h1, h2, h⟩ := h
    obtain ⟨G1, hG⟩ : ∃ z, z = zsi G (zrv G q0 82) x5.toNatClampNeg x4 := ⟨_, rfl⟩
    have h := h _ hG
    refine z_iast (pc' := 132) dX12_waits_131 rfl h1 h2  ?_
    refine z_st hG ?_
    refine z_iinc (y := x3 + 1) (pc' := 135) dX12_waits_132 rfl (zinc_1 _) (by decide) rfl ?_
    refine z_iinc (y := x4 + 1) (pc' := 138) dX12_waits_135 rfl (zinc_1 _) (by decide) rfl ?_
    refine z_goto (pc' := 34) dX12_waits_138 (by decide) ?_
    exact z_dr (ls' := [some (.ref q0), some (.int x1), some (.int x2), some (.int (x3 + 1)), some (.int (x4 + 1)), none, none, none, none]) ⟨rfl, rfl, rfl, rfl, rfl, trivial⟩ h
  · have h := h.2 hc
    refine z_aload_n (pc' := 78) dX12_waits_77 rfl rfl ?_
    refine z_aload_n (pc' := 79) dX12_waits_78 rfl rfl ?_
    obtain ⟨h1, h⟩ := h
    refine z_getR (ci := 13) (kf := 82) (pc' := 82) dX12_waits_79 kX12_175 (Or.inl rfl) (by decide) (by decide) rfl rfl h1 ?_
    refine z_iload (pc' := 84) dX12_waits_82 rfl rfl ?_
    refine z_iconst (x := 1) (pc' := 85) dX12_waits_84 (by decide) rfl ?_
    refine z_isub (pc' := 86) dX12_waits_85 rfl rfl ?_
    obtain ⟨h1, h2, h⟩ := h
    refine z_iald (pc' := 87) dX12_waits_86 rfl h1 h2 ?_
    refine z_iconst (x := 3) (pc' := 88) dX12_waits_87 (by decide) rfl ?_
    obtain ⟨h1, h⟩ := h
    obtain ⟨d1, b1, Qz, hm, hdd, hb, hkx, hk⟩ := h
    refine z_callV (Y := mX12_now) (n := 2) (as := [.int (ziv G (zrv G q0 82) (x5 - 1).toNatClampNeg), .int 3]) (st := []) (pc' := 91) (ci := 13) (q := q0) hm dX12_waits_88 kX12_434 vX12_now rfl rfl (by decide) rfl h1 hdd hb (Nat.le_of_ble_eq_true rfl) (fun r G3 hz => ?_) hkx
    obtain ⟨y2, rfl, h⟩ := hk r G3 hz
    refine z_aload_n (pc' := 92) dX12_waits_91 rfl rfl ?_
    refine z_iload (pc' := 94) dX12_waits_92 rfl rfl ?_
    refine z_iconst (x := 3) (pc' := 95) dX12_waits_94 (by decide) rfl ?_
    obtain ⟨h1, h⟩ := h
    obtain ⟨d1, b1, Qz, hm, hdd, hb, hkx, hk⟩ := h
    refine z_callV (Y := mX12_now) (n := 2) (as := [.int x4, .int 3]) (st := [.int y2]) (pc' := 98) (ci := 13) (q := q0) hm dX12_waits_95 kX12_434 vX12_now rfl rfl (by decide) rfl h1 hdd hb (Nat.le_of_ble_eq_true rfl) (fun r G6 hz => ?_) hkx
    obtain ⟨y5, rfl, h⟩ := hk r G6 hz
    refine z_icmp_le (pt := 123) (pc' := 101) dX12_waits_98 (by decide) rfl (fun hc => ?_) (fun hc => ?_)
    · have h := h.1 hc
      refine z_aload_n (pc' := 124) dX12_waits_123 rfl rfl ?_
      obtain ⟨h1, h⟩ := h
      refine z_getR (ci := 13) (kf := 82) (pc' := 127) dX12_waits_124 kX12_175 (Or.inl rfl) (by decide) (by decide) rfl rfl h1 ?_
      refine z_iload (pc' := 129) dX12_waits_127 rfl rfl ?_
      refine z_iload (pc' := 131) dX12_waits_129 rfl rfl ?_
      obtain ⟨h1, h2, h⟩ := h
      obtain ⟨G8, hG⟩ : ∃ z, z = zsi G6 (zrv G6 q0 82) x5.toNatClampNeg x4 := ⟨_, rfl⟩
      have h := h _ hG
      refine z_iast (pc' := 132) dX12_waits_131 rfl h1 h2  ?_
      refine z_st hG ?_
      refine z_iinc (y := x3 + 1) (pc' := 135) dX12_waits_132 rfl (zinc_1 _) (by decide) rfl ?_
      refine z_iinc (y := x4 + 1) (pc' := 138) dX12_waits_135 rfl (zinc_1 _) (by decide) rfl ?_
      refine z_goto (pc' := 34) dX12_waits_138 (by decide) ?_
      exact z_dr (ls' := [some (.ref q0), some (.int x1), some (.int x2), some (.int (x3 + 1)), some (.int (x4 + 1)), none, none, none, none]) ⟨rfl, rfl, rfl, rfl, rfl, trivial⟩ h
    · have h := h.2 hc
      refine z_aload_n (pc' := 102) dX12_waits_101 rfl rfl ?_
      obtain ⟨h1, h⟩ := h
      refine z_getR (ci := 13) (kf := 82) (pc' := 105) dX12_waits_102 kX12_175 (Or.inl rfl) (by decide) (by decide) rfl rfl h1 ?_
      refine z_iload (pc' := 107) dX12_waits_105 rfl rfl ?_
      refine z_aload_n (pc' := 108) dX12_waits_107 rfl rfl ?_
      obtain ⟨h1, h⟩ := h
      refine z_getR (ci := 13) (kf := 82) (pc' := 111) dX12_waits_108 kX12_175 (Or.inl rfl) (by decide) (by decide) rfl rfl h1 ?_
      refine z_iload (pc' := 113) dX12_waits_111 rfl rfl ?_
      refine z_iconst (x := 1) (pc' := 114) dX12_waits_113 (by decide) rfl ?_
      refine z_isub (pc' := 115) dX12_waits_114 rfl rfl ?_
      obtain ⟨h1, h2, h⟩ := h
      refine z_iald (pc' := 116) dX12_waits_115 rfl h1 h2 ?_
      obtain ⟨h1, h2, h⟩ := h
      obtain ⟨G9, hG⟩ : ∃ z, z = zsi G6 (zrv G6 q0 82) x5.toNatClampNeg (ziv G6 (zrv G6 q0 82) (x5 - 1).toNatClampNeg) := ⟨_, rfl⟩
      have h := h _ hG
      refine z_iast (pc' := 117) dX12_waits_116 rfl h1 h2  ?_
      refine z_st hG ?_
      refine z_iinc (y := x5 + (-1)) (pc' := 120) dX12_waits_117 rfl (zinc_m1 _) (by decide) rfl ?_
      refine z_goto (pc' := 72) dX12_waits_120 (by decide) ?_
      exact z_dr (ls' := [some (.ref q0), some (.int x1), some (.int x2), some (.int x3), some (.int x4), some (.int (x5 + (-1))), none, none, none]) ⟨rfl, rfl, rfl, rfl, rfl, rfl, trivial⟩ h
def wp_X12_waits_159 (E : ZE) (l : Launch) (d b : Nat) (G0 : ZG) (Q : ZQ) (k : Nat) (q0 : Nat) (x2 : Int32) (x3 : Int32) (x4 : Int32) (x5 : Int32) (G : ZG) : Prop :=
  ((x4 ≤ x5 →
    ((x2 = 0 →
      zob G q0 13 ∧
      (zar G (zrv G q0 81) 0 ∨ zrd G (zrv G q0 81) .int) ∧ vp_in (x4 / 10) (zln G (zrv G q0 81)) ∧
      Q (.inl (some (.int (ziv G (zrv G q0 81) (x4 / 10).toNatClampNeg)))) G) ∧
    (¬ (x2 = 0) →
      zob G q0 13 ∧
      (zar G (zrv G q0 81) 0 ∨ zrd G (zrv G q0 81) .int) ∧ vp_in ((x4 - 1) - (x4 / 10)) (zln G (zrv G q0 81)) ∧
      Q (.inl (some (.int (ziv G (zrv G q0 81) ((x4 - 1) - (x4 / 10)).toNatClampNeg)))) G))) ∧
  (¬ (x4 ≤ x5) →
    zob G q0 13 ∧
    (zar G (zrv G q0 82) 0 ∨ zrd G (zrv G q0 82) .int) ∧ vp_in ((x3 - x4) + x5) (zln G (zrv G q0 82)) ∧
    zob G q0 13 ∧
    xcI E l mX12_now d [.ref q0, .int (ziv G (zrv G q0 82) ((x3 - x4) + x5).toNatClampNeg), .int 3] G k (fun X G9 => Q (.inr X) G9) (fun y1 G2 k3 =>
    zob G2 q0 13 ∧
    (zar G2 (zrv G2 q0 55) 0 ∨ zrd G2 (zrv G2 q0 55) .int) ∧ vp_in (ziv G (zrv G q0 82) ((x3 - x4) + x5).toNatClampNeg) (zln G2 (zrv G2 q0 55)) ∧
    zW E l mX12_waits d b G0 Q k3 201 [some (.ref q0), none, some (.int x2), some (.int x3), some (.int x4), some (.int x5), none, some (.int (y1 - (ziv G2 (zrv G2 q0 55) (ziv G (zrv G q0 82) ((x3 - x4) + x5).toNatClampNeg).toNatClampNeg))), some (.int x5)] [] G2)))
theorem wpt_X12_waits_159 {E : ZE} {l : Launch} {d b : Nat} {G0 : ZG} {Q : ZQ} {k : Nat} {q0 : Nat} {x2 : Int32} {x3 : Int32} {x4 : Int32} {x5 : Int32} {G : ZG} (h : wp_X12_waits_159 E l d b G0 Q k q0 x2 x3 x4 x5 G) : zW E l mX12_waits d b G0 Q k 159 [some (.ref q0), none, some (.int x2), some (.int x3), some (.int x4), some (.int x5), none, none, none] [] G := by
  unfold wp_X12_waits_159 at h
  refine z_iload (pc' := 161) dX12_waits_159 rfl rfl ?_
  refine z_iload (pc' := 163) dX12_waits_161 rfl rfl ?_
  refine z_icmp_ge (pt := 257) (pc' := 166) dX12_waits_163 (by decide) rfl (fun hc => ?_) (fun hc => ?_)
  · have h := h.1 hc
    refine z_iload_n (pc' := 258) dX12_waits_257 rfl rfl ?_
    refine z_if_eq (pt := 279) (pc' := 261) dX12_waits_258 (by decide) rfl (fun hc => ?_) (fun hc => ?_)
    · have h := h.1 hc
      refine z_aload_n (pc' := 280) dX12_waits_279 rfl rfl ?_
      obtain ⟨h1, h⟩ := h
      refine z_getR (ci := 13) (kf := 81) (pc' := 283) dX12_waits_280 kX12_172 (Or.inl rfl) (by decide) (by decide) rfl rfl h1 ?_
      refine z_iload (pc' := 285) dX12_waits_283 rfl rfl ?_
      refine z_bipush (x := 10) (pc' := 287) dX12_waits_285 (by decide) rfl ?_
      refine z_idiv (pc' := 288) dX12_waits_287 (by decide) rfl rfl ?_
      obtain ⟨h1, h2, h⟩ := h
      refine z_iald (pc' := 289) dX12_waits_288 rfl h1 h2 ?_
      exact z_iret dX12_waits_289 rfl h
    · have h := h.2 hc
      refine z_aload_n (pc' := 262) dX12_waits_261 rfl rfl ?_
      obtain ⟨h1, h⟩ := h
      refine z_getR (ci := 13) (kf := 81) (pc' := 265) dX12_waits_262 kX12_172 (Or.inl rfl) (by decide) (by decide) rfl rfl h1 ?_
      refine z_iload (pc' := 267) dX12_waits_265 rfl rfl ?_
      refine z_iconst (x := 1) (pc' := 268) dX12_waits_267 (by decide) rfl ?_
      refine z_isub (pc' := 269) dX12_waits_268 rfl rfl ?_
      refine z_iload (pc' := 271) dX12_waits_269 rfl rfl ?_
      refine z_bipush (x := 10) (pc' := 273) dX12_waits_271 (by decide) rfl ?_
      refine z_idiv (pc' := 274) dX12_waits_273 (by decide) rfl rfl ?_
      refine z_isub (pc' := 275) dX12_waits_274 rfl rfl ?_
      obtain ⟨h1, h2, h⟩ := h
      refine z_iald (pc' := 276) dX12_waits_275 rfl h1 h2 ?_
      refine z_goto (pc' := 289) dX12_waits_276 (by decide) ?_
      exact z_iret dX12_waits_289 rfl h
  · have h := h.2 hc
    refine z_aload_n (pc' := 167) dX12_waits_166 rfl rfl ?_
    obtain ⟨h1, h⟩ := h
    refine z_getR (ci := 13) (kf := 82) (pc' := 170) dX12_waits_167 kX12_175 (Or.inl rfl) (by decide) (by decide) rfl rfl h1 ?_
    refine z_iload_n (pc' := 171) dX12_waits_170 rfl rfl ?_
    refine z_iload (pc' := 173) dX12_waits_171 rfl rfl ?_
    refine z_isub (pc' := 174) dX12_waits_173 rfl rfl ?_
    refine z_iload (pc' := 176) dX12_waits_174 rfl rfl ?_
    refine z_iadd (pc' := 177) dX12_waits_176 rfl rfl ?_
    obtain ⟨h1, h2, h⟩ := h
    refine z_iald (pc' := 178) dX12_waits_177 rfl h1 h2 ?_
    refine z_istore (pc' := 180) dX12_waits_178 (by decide) rfl ?_
    refine z_aload_n (pc' := 181) dX12_waits_180 rfl rfl ?_
    refine z_iload (pc' := 183) dX12_waits_181 rfl rfl ?_
    refine z_iconst (x := 3) (pc' := 184) dX12_waits_183 (by decide) rfl ?_
    obtain ⟨h1, h⟩ := h
    obtain ⟨d1, b1, Qz, hm, hdd, hb, hkx, hk⟩ := h
    refine z_callV (Y := mX12_now) (n := 2) (as := [.int (ziv G (zrv G q0 82) ((x3 - x4) + x5).toNatClampNeg), .int 3]) (st := []) (pc' := 187) (ci := 13) (q := q0) hm dX12_waits_184 kX12_434 vX12_now rfl rfl (by decide) rfl h1 hdd hb (Nat.le_of_ble_eq_true rfl) (fun r G2 hz => ?_) hkx
    obtain ⟨y1, rfl, h⟩ := hk r G2 hz
    refine z_aload_n (pc' := 188) dX12_waits_187 rfl rfl ?_
    obtain ⟨h1, h⟩ := h
    refine z_getR (ci := 13) (kf := 55) (pc' := 191) dX12_waits_188 kX12_118 (Or.inl rfl) (by decide) (by decide) rfl rfl h1 ?_
    refine z_iload (pc' := 193) dX12_waits_191 rfl rfl ?_
    obtain ⟨h1, h2, h⟩ := h
    refine z_iald (pc' := 194) dX12_waits_193 rfl h1 h2 ?_
    refine z_isub (pc' := 195) dX12_waits_194 rfl rfl ?_
    refine z_istore (pc' := 197) dX12_waits_195 (by decide) rfl ?_
    refine z_iload (pc' := 199) dX12_waits_197 rfl rfl ?_
    refine z_istore (pc' := 201) dX12_waits_199 (by decide) rfl ?_
    exact z_dr (ls' := [some (.ref q0), none, some (.int x2), some (.int x3), some (.int x4), some (.int x5), none, some (.int (y1 - (ziv G2 (zrv G2 q0 55) (ziv G (zrv G q0 82) ((x3 - x4) + x5).toNatClampNeg).toNatClampNeg))), some (.int x5)]) ⟨rfl, rfl, rfl, rfl, rfl, rfl, rfl, trivial⟩ h
def wp_X12_waits_201 (E : ZE) (l : Launch) (d b : Nat) (G0 : ZG) (Q : ZQ) (k : Nat) (q0 : Nat) (x2 : Int32) (x3 : Int32) (x4 : Int32) (x5 : Int32) (x7 : Int32) (x8 : Int32) (G : ZG) : Prop :=
  ((x8 ≤ 0 →
    zob G q0 13 ∧
    zar G (zrv G q0 81) 0 ∧ vp_in x8 (zln G (zrv G q0 81)) ∧
    ∀ G1, G1 = zsi G (zrv G q0 81) x8.toNatClampNeg x7 →
    zW E l mX12_waits d b G0 Q k 159 [some (.ref q0), none, some (.int x2), some (.int x3), some (.int x4), some (.int (x5 + 1)), none, none, none] [] G1) ∧
  (¬ (x8 ≤ 0) →
    zob G q0 13 ∧
    (zar G (zrv G q0 81) 0 ∨ zrd G (zrv G q0 81) .int) ∧ vp_in (x8 - 1) (zln G (zrv G q0 81)) ∧
    (((ziv G (zrv G q0 81) (x8 - 1).toNatClampNeg) ≤ x7 →
      zob G q0 13 ∧
      zar G (zrv G q0 81) 0 ∧ vp_in x8 (zln G (zrv G q0 81)) ∧
      ∀ G2, G2 = zsi G (zrv G q0 81) x8.toNatClampNeg x7 →
      zW E l mX12_waits d b G0 Q k 159 [some (.ref q0), none, some (.int x2), some (.int x3), some (.int x4), some (.int (x5 + 1)), none, none, none] [] G2) ∧
    (¬ ((ziv G (zrv G q0 81) (x8 - 1).toNatClampNeg) ≤ x7) →
      zob G q0 13 ∧
      zob G q0 13 ∧
      (zar G (zrv G q0 81) 0 ∨ zrd G (zrv G q0 81) .int) ∧ vp_in (x8 - 1) (zln G (zrv G q0 81)) ∧
      zar G (zrv G q0 81) 0 ∧ vp_in x8 (zln G (zrv G q0 81)) ∧
      ∀ G3, G3 = zsi G (zrv G q0 81) x8.toNatClampNeg (ziv G (zrv G q0 81) (x8 - 1).toNatClampNeg) →
      zW E l mX12_waits d b G0 Q k 201 [some (.ref q0), none, some (.int x2), some (.int x3), some (.int x4), some (.int x5), none, some (.int x7), some (.int (x8 + (-1)))] [] G3))))
theorem wpt_X12_waits_201 {E : ZE} {l : Launch} {d b : Nat} {G0 : ZG} {Q : ZQ} {k : Nat} {q0 : Nat} {x2 : Int32} {x3 : Int32} {x4 : Int32} {x5 : Int32} {x7 : Int32} {x8 : Int32} {G : ZG} (h : wp_X12_waits_201 E l d b G0 Q k q0 x2 x3 x4 x5 x7 x8 G) : zW E l mX12_waits d b G0 Q k 201 [some (.ref q0), none, some (.int x2), some (.int x3), some (.int x4), some (.int x5), none, some (.int x7), some (.int x8)] [] G := by
  unfold wp_X12_waits_201 at h
  refine z_iload (pc' := 203) dX12_waits_201 rfl rfl ?_
  refine z_if_le (pt := 242) (pc' := 206) dX12_waits_203 (by decide) rfl (fun hc => ?_) (fun hc => ?_)
  · have h := h.1 hc
    refine z_aload_n (pc' := 243) dX12_waits_242 rfl rfl ?_
    obtain ⟨h1, h⟩ := h
    refine z_getR (ci := 13) (kf := 81) (pc' := 246) dX12_waits_243 kX12_172 (Or.inl rfl) (by decide) (by decide) rfl rfl h1 ?_
    refine z_iload (pc' := 248) dX12_waits_246 rfl rfl ?_
    refine z_iload (pc' := 250) dX12_waits_248 rfl rfl ?_
    obtain ⟨h1, h2, h⟩ := h
    obtain ⟨G1, hG⟩ : ∃ z, z = zsi G (zrv G q0 81) x8.toNatClampNeg x7 := ⟨_, rfl⟩
    have h := h _ hG
    refine z_iast (pc' := 251) dX12_waits_250 rfl h1 h2  ?_
    refine z_st hG ?_
    refine z_iinc (y := x5 + 1) (pc' := 254) dX12_waits_251 rfl (zinc_1 _) (by decide) rfl ?_
    refine z_goto (pc' := 159) dX12_waits_254 (by decide) ?_
    exact z_dr (ls' := [some (.ref q0), none, some (.int x2), some (.int x3), some (.int x4), some (.int (x5 + 1)), none, none, none]) ⟨rfl, rfl, rfl, rfl, rfl, trivial⟩ h
  · have h := h.2 hc
    refine z_aload_n (pc' := 207) dX12_waits_206 rfl rfl ?_
    obtain ⟨h1, h⟩ := h
    refine z_getR (ci := 13) (kf := 81) (pc' := 210) dX12_waits_207 kX12_172 (Or.inl rfl) (by decide) (by decide) rfl rfl h1 ?_
    refine z_iload (pc' := 212) dX12_waits_210 rfl rfl ?_
    refine z_iconst (x := 1) (pc' := 213) dX12_waits_212 (by decide) rfl ?_
    refine z_isub (pc' := 214) dX12_waits_213 rfl rfl ?_
    obtain ⟨h1, h2, h⟩ := h
    refine z_iald (pc' := 215) dX12_waits_214 rfl h1 h2 ?_
    refine z_iload (pc' := 217) dX12_waits_215 rfl rfl ?_
    refine z_icmp_le (pt := 242) (pc' := 220) dX12_waits_217 (by decide) rfl (fun hc => ?_) (fun hc => ?_)
    · have h := h.1 hc
      refine z_aload_n (pc' := 243) dX12_waits_242 rfl rfl ?_
      obtain ⟨h1, h⟩ := h
      refine z_getR (ci := 13) (kf := 81) (pc' := 246) dX12_waits_243 kX12_172 (Or.inl rfl) (by decide) (by decide) rfl rfl h1 ?_
      refine z_iload (pc' := 248) dX12_waits_246 rfl rfl ?_
      refine z_iload (pc' := 250) dX12_waits_248 rfl rfl ?_
      obtain ⟨h1, h2, h⟩ := h
      obtain ⟨G2, hG⟩ : ∃ z, z = zsi G (zrv G q0 81) x8.toNatClampNeg x7 := ⟨_, rfl⟩
      have h := h _ hG
      refine z_iast (pc' := 251) dX12_waits_250 rfl h1 h2  ?_
      refine z_st hG ?_
      refine z_iinc (y := x5 + 1) (pc' := 254) dX12_waits_251 rfl (zinc_1 _) (by decide) rfl ?_
      refine z_goto (pc' := 159) dX12_waits_254 (by decide) ?_
      exact z_dr (ls' := [some (.ref q0), none, some (.int x2), some (.int x3), some (.int x4), some (.int (x5 + 1)), none, none, none]) ⟨rfl, rfl, rfl, rfl, rfl, trivial⟩ h
    · have h := h.2 hc
      refine z_aload_n (pc' := 221) dX12_waits_220 rfl rfl ?_
      obtain ⟨h1, h⟩ := h
      refine z_getR (ci := 13) (kf := 81) (pc' := 224) dX12_waits_221 kX12_172 (Or.inl rfl) (by decide) (by decide) rfl rfl h1 ?_
      refine z_iload (pc' := 226) dX12_waits_224 rfl rfl ?_
      refine z_aload_n (pc' := 227) dX12_waits_226 rfl rfl ?_
      obtain ⟨h1, h⟩ := h
      refine z_getR (ci := 13) (kf := 81) (pc' := 230) dX12_waits_227 kX12_172 (Or.inl rfl) (by decide) (by decide) rfl rfl h1 ?_
      refine z_iload (pc' := 232) dX12_waits_230 rfl rfl ?_
      refine z_iconst (x := 1) (pc' := 233) dX12_waits_232 (by decide) rfl ?_
      refine z_isub (pc' := 234) dX12_waits_233 rfl rfl ?_
      obtain ⟨h1, h2, h⟩ := h
      refine z_iald (pc' := 235) dX12_waits_234 rfl h1 h2 ?_
      obtain ⟨h1, h2, h⟩ := h
      obtain ⟨G3, hG⟩ : ∃ z, z = zsi G (zrv G q0 81) x8.toNatClampNeg (ziv G (zrv G q0 81) (x8 - 1).toNatClampNeg) := ⟨_, rfl⟩
      have h := h _ hG
      refine z_iast (pc' := 236) dX12_waits_235 rfl h1 h2  ?_
      refine z_st hG ?_
      refine z_iinc (y := x8 + (-1)) (pc' := 239) dX12_waits_236 rfl (zinc_m1 _) (by decide) rfl ?_
      refine z_goto (pc' := 201) dX12_waits_239 (by decide) ?_
      exact z_dr (ls' := [some (.ref q0), none, some (.int x2), some (.int x3), some (.int x4), some (.int x5), none, some (.int x7), some (.int (x8 + (-1)))]) ⟨rfl, rfl, rfl, rfl, rfl, rfl, rfl, trivial⟩ h
def wp_X12_word_0 (E : ZE) (l : Launch) (d b : Nat) (G0 : ZG) (Q : ZQ) (k : Nat) (q0 : Nat) (G : ZG) : Prop :=
  zob G q0 13 ∧
  xcV E l mX12_blanksBetween d [.ref q0] G k (fun X G9 => Q (.inr X) G9) (fun G1 k2 =>
  zW E l mX12_word d b G0 Q k2 4 [some (.ref q0)] [] G1)
theorem wpt_X12_word_0 {E : ZE} {l : Launch} {d b : Nat} {G0 : ZG} {Q : ZQ} {k : Nat} {q0 : Nat} {G : ZG} (h : wp_X12_word_0 E l d b G0 Q k q0 G) : zW E l mX12_word d b G0 Q k 0 [some (.ref q0)] [] G := by
  unfold wp_X12_word_0 at h
  refine z_aload_n (pc' := 1) dX12_word_0 rfl rfl ?_
  obtain ⟨h1, h⟩ := h
  obtain ⟨d1, b1, Qz, hm, hdd, hb, hkx, hk⟩ := h
  refine z_callV (Y := mX12_blanksBetween) (n := 0) (as := []) (st := []) (pc' := 4) (ci := 13) (q := q0) hm dX12_word_1 kX12_197 vX12_blanksBetween rfl rfl (by decide) rfl h1 hdd hb (Nat.le_of_ble_eq_true rfl) (fun r G1 hz => ?_) hkx
  obtain ⟨rfl, h⟩ := hk r G1 hz
  exact z_dr (ls' := [some (.ref q0)]) ⟨rfl, trivial⟩ h
def wp_X12_word_4 (E : ZE) (l : Launch) (d b : Nat) (G0 : ZG) (Q : ZQ) (k : Nat) (q0 : Nat) (G : ZG) : Prop :=
  zob G q0 13 ∧
  xcI E l mX12_isAt d [.ref q0, .int 97, .int 122] G k (fun X G9 => Q (.inr X) G9) (fun y1 G2 k3 =>
  ((y1 = 0 →
    Q (.inl none) G2) ∧
  (¬ (y1 = 0) →
    zob G2 q0 13 ∧
    zob G2 q0 13 ∧
    ∀ G4, G4 = zsi G2 q0 4 ((ziv G2 q0 4) + 1) →
    zW E l mX12_word d b G0 Q k3 4 [some (.ref q0)] [] G4)))
theorem wpt_X12_word_4 {E : ZE} {l : Launch} {d b : Nat} {G0 : ZG} {Q : ZQ} {k : Nat} {q0 : Nat} {G : ZG} (h : wp_X12_word_4 E l d b G0 Q k q0 G) : zW E l mX12_word d b G0 Q k 4 [some (.ref q0)] [] G := by
  unfold wp_X12_word_4 at h
  refine z_aload_n (pc' := 5) dX12_word_4 rfl rfl ?_
  refine z_bipush (x := 97) (pc' := 7) dX12_word_5 (by decide) rfl ?_
  refine z_bipush (x := 122) (pc' := 9) dX12_word_7 (by decide) rfl ?_
  obtain ⟨h1, h⟩ := h
  obtain ⟨d1, b1, Qz, hm, hdd, hb, hkx, hk⟩ := h
  refine z_callV (Y := mX12_isAt) (n := 2) (as := [.int 97, .int 122]) (st := []) (pc' := 12) (ci := 13) (q := q0) hm dX12_word_9 kX12_190 vX12_isAt rfl rfl (by decide) rfl h1 hdd hb (Nat.le_of_ble_eq_true rfl) (fun r G2 hz => ?_) hkx
  obtain ⟨y1, rfl, h⟩ := hk r G2 hz
  refine z_if_eq (pt := 28) (pc' := 15) dX12_word_12 (by decide) rfl (fun hc => ?_) (fun hc => ?_)
  · have h := h.1 hc
    exact z_vret dX12_word_28 rfl h
  · have h := h.2 hc
    refine z_aload_n (pc' := 16) dX12_word_15 rfl rfl ?_
    refine z_dup (pc' := 17) dX12_word_16 rfl rfl ?_
    obtain ⟨h1, h⟩ := h
    refine z_getI (ci := 13) (kf := 4) (pc' := 20) dX12_word_17 kX12_187 (Or.inl rfl) (by decide) (by decide) rfl rfl h1 ?_
    refine z_iconst (x := 1) (pc' := 21) dX12_word_20 (by decide) rfl ?_
    refine z_iadd (pc' := 22) dX12_word_21 rfl rfl ?_
    obtain ⟨h1, h⟩ := h
    obtain ⟨G4, hG⟩ : ∃ z, z = zsi G2 q0 4 ((ziv G2 q0 4) + 1) := ⟨_, rfl⟩
    have h := h _ hG
    refine z_putI (ci := 13) (kf := 4) (pc' := 25) dX12_word_22 kX12_187 (Or.inl rfl) (by decide) (by decide) rfl (Or.inl rfl) rfl h1 (zok_int _) ?_
    refine z_st hG ?_
    refine z_goto (pc' := 4) dX12_word_25 (by decide) ?_
    exact z_dr (ls' := [some (.ref q0)]) ⟨rfl, trivial⟩ h
def wp_X12_works_0 (E : ZE) (l : Launch) (d b : Nat) (G0 : ZG) (Q : ZQ) (k : Nat) (q0 : Nat) (x1 : Int32) (x2 : Int32) (G : ZG) : Prop :=
  zob G q0 13 ∧
  zob G q0 13 ∧
  xcI E l mX12_unitsOf d [.ref q0, .int x1, .int (ziv G q0 1)] G k (fun X G9 => Q (.inr X) G9) (fun y1 G2 k3 =>
  ((¬ x1 = 0 →
    zob G2 q0 13 ∧
    xcV E l mX12_lines d [.ref q0, .int x1, .int x2] G2 k3 (fun X G9 => Q (.inr X) G9) (fun G4 k5 =>
    zW E l mX12_works d b G0 Q k5 34 [some (.ref q0), some (.int x1), none, some (.int y1), some (.int 0), none] [] G4)) ∧
  (¬ (¬ x1 = 0) →
    zob G2 q0 13 ∧
    xcI E l mJ9_max_7cf53 d [.int 0, .int (y1 - (ziv G2 q0 74))] G2 k3 (fun X G9 => Q (.inr X) G9) (fun y6 G7 k8 =>
    zob G7 q0 13 ∧
    xcV E l mX12_lines d [.ref q0, .int x1, .int x2] G7 k8 (fun X G9 => Q (.inr X) G9) (fun G9 k10 =>
    zW E l mX12_works d b G0 Q k10 34 [some (.ref q0), some (.int x1), none, some (.int y6), some (.int 0), none] [] G9)))))
theorem wpt_X12_works_0 {E : ZE} {l : Launch} {d b : Nat} {G0 : ZG} {Q : ZQ} {k : Nat} {q0 : Nat} {x1 : Int32} {x2 : Int32} {G : ZG} (h : wp_X12_works_0 E l d b G0 Q k q0 x1 x2 G) : zW E l mX12_works d b G0 Q k 0 [some (.ref q0), some (.int x1), some (.int x2), none, none, none] [] G := by
  unfold wp_X12_works_0 at h
  refine z_aload_n (pc' := 1) dX12_works_0 rfl rfl ?_
  refine z_iload_n (pc' := 2) dX12_works_1 rfl rfl ?_
  refine z_aload_n (pc' := 3) dX12_works_2 rfl rfl ?_
  obtain ⟨h1, h⟩ := h
  refine z_getI (ci := 13) (kf := 1) (pc' := 6) dX12_works_3 kX12_314 (Or.inl rfl) (by decide) (by decide) rfl rfl h1 ?_
  obtain ⟨h1, h⟩ := h
  obtain ⟨d1, b1, Qz, hm, hdd, hb, hkx, hk⟩ := h
  refine z_callV (Y := mX12_unitsOf) (n := 2) (as := [.int x1, .int (ziv G q0 1)]) (st := []) (pc' := 9) (ci := 13) (q := q0) hm dX12_works_6 kX12_400 vX12_unitsOf rfl rfl (by decide) rfl h1 hdd hb (Nat.le_of_ble_eq_true rfl) (fun r G2 hz => ?_) hkx
  obtain ⟨y1, rfl, h⟩ := hk r G2 hz
  refine z_istore_n (pc' := 10) dX12_works_9 (by decide) rfl ?_
  refine z_iload_n (pc' := 11) dX12_works_10 rfl rfl ?_
  refine z_if_ne (pt := 25) (pc' := 14) dX12_works_11 (by decide) rfl (fun hc => ?_) (fun hc => ?_)
  · have h := h.1 hc
    refine z_aload_n (pc' := 26) dX12_works_25 rfl rfl ?_
    refine z_iload_n (pc' := 27) dX12_works_26 rfl rfl ?_
    refine z_iload_n (pc' := 28) dX12_works_27 rfl rfl ?_
    obtain ⟨h1, h⟩ := h
    obtain ⟨d1, b1, Qz, hm, hdd, hb, hkx, hk⟩ := h
    refine z_callV (Y := mX12_lines) (n := 2) (as := [.int x1, .int x2]) (st := []) (pc' := 31) (ci := 13) (q := q0) hm dX12_works_28 kX12_468 vX12_lines rfl rfl (by decide) rfl h1 hdd hb (Nat.le_of_ble_eq_true rfl) (fun r G4 hz => ?_) hkx
    obtain ⟨rfl, h⟩ := hk r G4 hz
    refine z_iconst (x := 0) (pc' := 32) dX12_works_31 (by decide) rfl ?_
    refine z_istore (pc' := 34) dX12_works_32 (by decide) rfl ?_
    exact z_dr (ls' := [some (.ref q0), some (.int x1), none, some (.int y1), some (.int 0), none]) ⟨rfl, rfl, rfl, rfl, trivial⟩ h
  · have h := h.2 hc
    refine z_iconst (x := 0) (pc' := 15) dX12_works_14 (by decide) rfl ?_
    refine z_iload_n (pc' := 16) dX12_works_15 rfl rfl ?_
    refine z_aload_n (pc' := 17) dX12_works_16 rfl rfl ?_
    obtain ⟨h1, h⟩ := h
    refine z_getI (ci := 13) (kf := 74) (pc' := 20) dX12_works_17 kX12_465 (Or.inl rfl) (by decide) (by decide) rfl rfl h1 ?_
    refine z_isub (pc' := 21) dX12_works_20 rfl rfl ?_
    obtain ⟨d1, b1, Qz, hm, hdd, hb, hkx, hk⟩ := h
    refine z_callS (Y := mJ9_max_7cf53) (n := 2) (as := [.int 0, .int (y1 - (ziv G2 q0 74))]) (st := []) (pc' := 24) hm dX12_works_21 kX12_366 sJ9_max_7cf53 rfl rfl hdd hb (Nat.le_of_ble_eq_true rfl) (fun r G7 hz => ?_) hkx
    obtain ⟨y6, rfl, h⟩ := hk r G7 hz
    refine z_istore_n (pc' := 25) dX12_works_24 (by decide) rfl ?_
    refine z_aload_n (pc' := 26) dX12_works_25 rfl rfl ?_
    refine z_iload_n (pc' := 27) dX12_works_26 rfl rfl ?_
    refine z_iload_n (pc' := 28) dX12_works_27 rfl rfl ?_
    obtain ⟨h1, h⟩ := h
    obtain ⟨d1, b1, Qz, hm, hdd, hb, hkx, hk⟩ := h
    refine z_callV (Y := mX12_lines) (n := 2) (as := [.int x1, .int x2]) (st := []) (pc' := 31) (ci := 13) (q := q0) hm dX12_works_28 kX12_468 vX12_lines rfl rfl (by decide) rfl h1 hdd hb (Nat.le_of_ble_eq_true rfl) (fun r G9 hz => ?_) hkx
    obtain ⟨rfl, h⟩ := hk r G9 hz
    refine z_iconst (x := 0) (pc' := 32) dX12_works_31 (by decide) rfl ?_
    refine z_istore (pc' := 34) dX12_works_32 (by decide) rfl ?_
    exact z_dr (ls' := [some (.ref q0), some (.int x1), none, some (.int y6), some (.int 0), none]) ⟨rfl, rfl, rfl, rfl, trivial⟩ h
def wp_X12_works_34 (E : ZE) (l : Launch) (d b : Nat) (G0 : ZG) (Q : ZQ) (k : Nat) (q0 : Nat) (x1 : Int32) (x3 : Int32) (x4 : Int32) (G : ZG) : Prop :=
  zob G q0 13 ∧
  (((ziv G q0 78) ≤ x4 →
    zob G q0 13 ∧
    zob G q0 13 ∧
    ∀ G1, G1 = zsi G q0 76 ((ziv G q0 76) + x3) →
    Q (.inl none) G1) ∧
  (¬ ((ziv G q0 78) ≤ x4) →
    zob G q0 13 ∧
    (zar G (zrv G q0 77) 0 ∨ zrd G (zrv G q0 77) .int) ∧ vp_in x4 (zln G (zrv G q0 77)) ∧
    zob G q0 13 ∧
    xcI E l mX12_takes d [.ref q0, .int x1, .int (ziv G (zrv G q0 77) x4.toNatClampNeg)] G k (fun X G9 => Q (.inr X) G9) (fun y2 G3 k4 =>
    ((x3 < y2 →
      zob G3 q0 13 ∧
      zob G3 q0 13 ∧
      ∀ G5, G5 = zsi G3 q0 76 ((ziv G3 q0 76) + x3) →
      Q (.inl none) G5) ∧
    (¬ (x3 < y2) →
      ((¬ x1 = 3 →
        zob G3 q0 13 ∧
        (zar G3 (zrv G3 q0 77) 0 ∨ zrd G3 (zrv G3 q0 77) .int) ∧ vp_in x4 (zln G3 (zrv G3 q0 77)) ∧
        zob G3 q0 13 ∧
        xcV E l mX12_does d [.ref q0, .int x1, .int (ziv G3 (zrv G3 q0 77) x4.toNatClampNeg)] G3 k4 (fun X G9 => Q (.inr X) G9) (fun G6 k7 =>
        zW E l mX12_works d b G0 Q k7 34 [some (.ref q0), some (.int x1), none, some (.int (x3 - y2)), some (.int (x4 + 1)), none] [] G6)) ∧
      (¬ (¬ x1 = 3) →
        zob G3 q0 13 ∧
        xcI E l mX12_canPrint d [.ref q0] G3 k4 (fun X G9 => Q (.inr X) G9) (fun y8 G9 k10 =>
        ((¬ y8 = 0 →
          zob G9 q0 13 ∧
          (zar G9 (zrv G9 q0 77) 0 ∨ zrd G9 (zrv G9 q0 77) .int) ∧ vp_in x4 (zln G9 (zrv G9 q0 77)) ∧
          zob G9 q0 13 ∧
          xcV E l mX12_does d [.ref q0, .int x1, .int (ziv G9 (zrv G9 q0 77) x4.toNatClampNeg)] G9 k10 (fun X G9 => Q (.inr X) G9) (fun G11 k12 =>
          zW E l mX12_works d b G0 Q k12 34 [some (.ref q0), some (.int x1), none, some (.int (x3 - y2)), some (.int (x4 + 1)), none] [] G11)) ∧
        (¬ (¬ y8 = 0) →
          zob G9 q0 13 ∧
          zob G9 q0 13 ∧
          ∀ G13, G13 = zsi G9 q0 76 ((ziv G9 q0 76) + x3) →
          Q (.inl none) G13))))))))))
theorem wpt_X12_works_34 {E : ZE} {l : Launch} {d b : Nat} {G0 : ZG} {Q : ZQ} {k : Nat} {q0 : Nat} {x1 : Int32} {x3 : Int32} {x4 : Int32} {G : ZG} (h : wp_X12_works_34 E l d b G0 Q k q0 x1 x3 x4 G) : zW E l mX12_works d b G0 Q k 34 [some (.ref q0), some (.int x1), none, some (.int x3), some (.int x4), none] [] G := by
  unfold wp_X12_works_34 at h
  refine z_iload (pc' := 36) dX12_works_34 rfl rfl ?_
  refine z_aload_n (pc' := 37) dX12_works_36 rfl rfl ?_
  obtain ⟨h1, h⟩ := h
  refine z_getI (ci := 13) (kf := 78) (pc' := 40) dX12_works_37 kX12_447 (Or.inl rfl) (by decide) (by decide) rfl rfl h1 ?_
  refine z_icmp_ge (pt := 101) (pc' := 43) dX12_works_40 (by decide) rfl (fun hc => ?_) (fun hc => ?_)
  · have h := h.1 hc
    refine z_aload_n (pc' := 102) dX12_works_101 rfl rfl ?_
    refine z_dup (pc' := 103) dX12_works_102 rfl rfl ?_
    obtain ⟨h1, h⟩ := h
    refine z_getI (ci := 13) (kf := 76) (pc' := 106) dX12_works_103 kX12_481 (Or.inl rfl) (by decide) (by decide) rfl rfl h1 ?_
    refine z_iload_n (pc' := 107) dX12_works_106 rfl rfl ?_
    refine z_iadd (pc' := 108) dX12_works_107 rfl rfl ?_
    obtain ⟨h1, h⟩ := h
    obtain ⟨G1, hG⟩ : ∃ z, z = zsi G q0 76 ((ziv G q0 76) + x3) := ⟨_, rfl⟩
    have h := h _ hG
    refine z_putI (ci := 13) (kf := 76) (pc' := 111) dX12_works_108 kX12_481 (Or.inl rfl) (by decide) (by decide) rfl (Or.inl rfl) rfl h1 (zok_int _) ?_
    refine z_st hG ?_
    exact z_vret dX12_works_111 rfl h
  · have h := h.2 hc
    refine z_aload_n (pc' := 44) dX12_works_43 rfl rfl ?_
    refine z_iload_n (pc' := 45) dX12_works_44 rfl rfl ?_
    refine z_aload_n (pc' := 46) dX12_works_45 rfl rfl ?_
    obtain ⟨h1, h⟩ := h
    refine z_getR (ci := 13) (kf := 77) (pc' := 49) dX12_works_46 kX12_163 (Or.inl rfl) (by decide) (by decide) rfl rfl h1 ?_
    refine z_iload (pc' := 51) dX12_works_49 rfl rfl ?_
    obtain ⟨h1, h2, h⟩ := h
    refine z_iald (pc' := 52) dX12_works_51 rfl h1 h2 ?_
    obtain ⟨h1, h⟩ := h
    obtain ⟨d1, b1, Qz, hm, hdd, hb, hkx, hk⟩ := h
    refine z_callV (Y := mX12_takes) (n := 2) (as := [.int x1, .int (ziv G (zrv G q0 77) x4.toNatClampNeg)]) (st := []) (pc' := 55) (ci := 13) (q := q0) hm dX12_works_52 kX12_472 vX12_takes rfl rfl (by decide) rfl h1 hdd hb (Nat.le_of_ble_eq_true rfl) (fun r G3 hz => ?_) hkx
    obtain ⟨y2, rfl, h⟩ := hk r G3 hz
    refine z_istore (pc' := 57) dX12_works_55 (by decide) rfl ?_
    refine z_iload (pc' := 59) dX12_works_57 rfl rfl ?_
    refine z_iload_n (pc' := 60) dX12_works_59 rfl rfl ?_
    refine z_icmp_gt (pt := 101) (pc' := 63) dX12_works_60 (by decide) rfl (fun hc => ?_) (fun hc => ?_)
    · have h := h.1 hc
      refine z_aload_n (pc' := 102) dX12_works_101 rfl rfl ?_
      refine z_dup (pc' := 103) dX12_works_102 rfl rfl ?_
      obtain ⟨h1, h⟩ := h
      refine z_getI (ci := 13) (kf := 76) (pc' := 106) dX12_works_103 kX12_481 (Or.inl rfl) (by decide) (by decide) rfl rfl h1 ?_
      refine z_iload_n (pc' := 107) dX12_works_106 rfl rfl ?_
      refine z_iadd (pc' := 108) dX12_works_107 rfl rfl ?_
      obtain ⟨h1, h⟩ := h
      obtain ⟨G5, hG⟩ : ∃ z, z = zsi G3 q0 76 ((ziv G3 q0 76) + x3) := ⟨_, rfl⟩
      have h := h _ hG
      refine z_putI (ci := 13) (kf := 76) (pc' := 111) dX12_works_108 kX12_481 (Or.inl rfl) (by decide) (by decide) rfl (Or.inl rfl) rfl h1 (zok_int _) ?_
      refine z_st hG ?_
      exact z_vret dX12_works_111 rfl h
    · have h := h.2 hc
      refine z_iload_n (pc' := 64) dX12_works_63 rfl rfl ?_
      refine z_iconst (x := 3) (pc' := 65) dX12_works_64 (by decide) rfl ?_
      refine z_icmp_ne (pt := 78) (pc' := 68) dX12_works_65 (by decide) rfl (fun hc => ?_) (fun hc => ?_)
      · have h := h.1 hc
        refine z_iload_n (pc' := 79) dX12_works_78 rfl rfl ?_
        refine z_iload (pc' := 81) dX12_works_79 rfl rfl ?_
        refine z_isub (pc' := 82) dX12_works_81 rfl rfl ?_
        refine z_istore_n (pc' := 83) dX12_works_82 (by decide) rfl ?_
        refine z_aload_n (pc' := 84) dX12_works_83 rfl rfl ?_
        refine z_iload_n (pc' := 85) dX12_works_84 rfl rfl ?_
        refine z_aload_n (pc' := 86) dX12_works_85 rfl rfl ?_
        obtain ⟨h1, h⟩ := h
        refine z_getR (ci := 13) (kf := 77) (pc' := 89) dX12_works_86 kX12_163 (Or.inl rfl) (by decide) (by decide) rfl rfl h1 ?_
        refine z_iload (pc' := 91) dX12_works_89 rfl rfl ?_
        obtain ⟨h1, h2, h⟩ := h
        refine z_iald (pc' := 92) dX12_works_91 rfl h1 h2 ?_
        obtain ⟨h1, h⟩ := h
        obtain ⟨d1, b1, Qz, hm, hdd, hb, hkx, hk⟩ := h
        refine z_callV (Y := mX12_does) (n := 2) (as := [.int x1, .int (ziv G3 (zrv G3 q0 77) x4.toNatClampNeg)]) (st := []) (pc' := 95) (ci := 13) (q := q0) hm dX12_works_92 kX12_478 vX12_does rfl rfl (by decide) rfl h1 hdd hb (Nat.le_of_ble_eq_true rfl) (fun r G6 hz => ?_) hkx
        obtain ⟨rfl, h⟩ := hk r G6 hz
        refine z_iinc (y := x4 + 1) (pc' := 98) dX12_works_95 rfl (zinc_1 _) (by decide) rfl ?_
        refine z_goto (pc' := 34) dX12_works_98 (by decide) ?_
        exact z_dr (ls' := [some (.ref q0), some (.int x1), none, some (.int (x3 - y2)), some (.int (x4 + 1)), none]) ⟨rfl, rfl, rfl, rfl, trivial⟩ h
      · have h := h.2 hc
        refine z_aload_n (pc' := 69) dX12_works_68 rfl rfl ?_
        obtain ⟨h1, h⟩ := h
        obtain ⟨d1, b1, Qz, hm, hdd, hb, hkx, hk⟩ := h
        refine z_callV (Y := mX12_canPrint) (n := 0) (as := []) (st := []) (pc' := 72) (ci := 13) (q := q0) hm dX12_works_69 kX12_475 vX12_canPrint rfl rfl (by decide) rfl h1 hdd hb (Nat.le_of_ble_eq_true rfl) (fun r G9 hz => ?_) hkx
        obtain ⟨y8, rfl, h⟩ := hk r G9 hz
        refine z_if_ne (pt := 78) (pc' := 75) dX12_works_72 (by decide) rfl (fun hc => ?_) (fun hc => ?_)
        · have h := h.1 hc
          refine z_iload_n (pc' := 79) dX12_works_78 rfl rfl ?_
          refine z_iload (pc' := 81) dX12_works_79 rfl rfl ?_
          refine z_isub (pc' := 82) dX12_works_81 rfl rfl ?_
          refine z_istore_n (pc' := 83) dX12_works_82 (by decide) rfl ?_
          refine z_aload_n (pc' := 84) dX12_works_83 rfl rfl ?_
          refine z_iload_n (pc' := 85) dX12_works_84 rfl rfl ?_
          refine z_aload_n (pc' := 86) dX12_works_85 rfl rfl ?_
          obtain ⟨h1, h⟩ := h
          refine z_getR (ci := 13) (kf := 77) (pc' := 89) dX12_works_86 kX12_163 (Or.inl rfl) (by decide) (by decide) rfl rfl h1 ?_
          refine z_iload (pc' := 91) dX12_works_89 rfl rfl ?_
          obtain ⟨h1, h2, h⟩ := h
          refine z_iald (pc' := 92) dX12_works_91 rfl h1 h2 ?_
          obtain ⟨h1, h⟩ := h
          obtain ⟨d1, b1, Qz, hm, hdd, hb, hkx, hk⟩ := h
          refine z_callV (Y := mX12_does) (n := 2) (as := [.int x1, .int (ziv G9 (zrv G9 q0 77) x4.toNatClampNeg)]) (st := []) (pc' := 95) (ci := 13) (q := q0) hm dX12_works_92 kX12_478 vX12_does rfl rfl (by decide) rfl h1 hdd hb (Nat.le_of_ble_eq_true rfl) (fun r G11 hz => ?_) hkx
          obtain ⟨rfl, h⟩ := hk r G11 hz
          refine z_iinc (y := x4 + 1) (pc' := 98) dX12_works_95 rfl (zinc_1 _) (by decide) rfl ?_
          refine z_goto (pc' := 34) dX12_works_98 (by decide) ?_
          exact z_dr (ls' := [some (.ref q0), some (.int x1), none, some (.int (x3 - y2)), some (.int (x4 + 1)), none]) ⟨rfl, rfl, rfl, rfl, trivial⟩ h
        · have h := h.2 hc
          refine z_goto (pc' := 101) dX12_works_75 (by decide) ?_
          refine z_aload_n (pc' := 102) dX12_works_101 rfl rfl ?_
          refine z_dup (pc' := 103) dX12_works_102 rfl rfl ?_
          obtain ⟨h1, h⟩ := h
          refine z_getI (ci := 13) (kf := 76) (pc' := 106) dX12_works_103 kX12_481 (Or.inl rfl) (by decide) (by decide) rfl rfl h1 ?_
          refine z_iload_n (pc' := 107) dX12_works_106 rfl rfl ?_
          refine z_iadd (pc' := 108) dX12_works_107 rfl rfl ?_
          obtain ⟨h1, h⟩ := h
          obtain ⟨G13, hG⟩ : ∃ z, z = zsi G9 q0 76 ((ziv G9 q0 76) + x3) := ⟨_, rfl⟩
          have h := h _ hG
          refine z_putI (ci := 13) (kf := 76) (pc' := 111) dX12_works_108 kX12_481 (Or.inl rfl) (by decide) (by decide) rfl (Or.inl rfl) rfl h1 (zok_int _) ?_
          refine z_st hG ?_
          exact z_vret dX12_works_111 rfl h
