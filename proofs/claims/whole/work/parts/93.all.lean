/-! the law from its entry to its end -/
def Q1 : ZQ := fun r _ => r = .inl (some (.int 1))
section ZAll
variable {E : ZE} {l : Launch} {d b st L : Nat} {G0 G Gi : ZG} {xv : Nat → Int32}
theorem n_lt8 {i L : Nat} (hi : i < 100000) (hL : L < 100000) : Int32.ofNat L - 8 < Int32.ofNat i ↔ L < i + 8 := by
  have e8 : (8 : Int32).toInt = 8 := by decide
  have a : (Int32.ofNat L).toInt = (L : Int) := Int32.toInt_ofNat_of_lt (by simp [Int32.size]; omega)
  have c : (Int32.ofNat i).toInt = (i : Int) := Int32.toInt_ofNat_of_lt (by simp [Int32.size]; omega)
  rw [i_tl, Int32.toInt_sub, a, e8, c, Int.bmod_eq_of_le (by omega) (by omega)]
  omega
theorem LV_of {i L : Nat} (h : i + 8 ≤ L) (hL : L ≤ 4096) : LV (Int32.ofNat i) L := by
  have k : ∀ j, j < 8 → vp_in (Int32.ofNat i + Int32.ofNat j) L := fun j hj => by
    rw [n_add]; exact n_in (by omega) (by omega)
  exact ⟨n_in (by omega) (by omega), k 1 (by omega), k 2 (by omega), k 3 (by omega), k 4 (by omega), k 5 (by omega), k 6 (by omega), k 7 (by omega)⟩
theorem law_loop (htr : l.stackTraces = false) (hd : 60 ≤ d) (hst : zst4 st) (hL : L ≤ 4096) : ∀ c i G S m n1 m1 k, i + 8 * c ≤ L → L < i + 8 * c + 8 → LI0 st L xv G S m n1 m1 → zbud c m n1 m1 ≤ k → zWL E l mL_law_ d b G0 Q1 k 23 [some (.ref (zp st 0)), some (.ref (zp 384 0)), some (.ref (zp 416 0)), some (.ref zout), some (.int (Int32.ofNat i)), none, none] [] G := by
  intro c
  induction c with
  | zero =>
    intro i G S m n1 m1 k h1 h2 hI hk
    obtain ⟨hrd, hln, hxs⟩ := hI.2.2.2.vs
    refine wpt_L_law__23 ?_; unfold wp_L_law__23
    rw [hln]
    exact ⟨Or.inr hrd, fun _ => rfl, fun c => absurd ((n_lt8 (by omega) (by omega)).mpr (by omega)) c⟩
  | succ c ih =>
    intro i G S m n1 m1 k h1 h2 hI hk
    obtain ⟨hrd, hln, hxs⟩ := hI.2.2.2.vs
    have hv : LV (Int32.ofNat i) L := LV_of (by omega) hL
    have hT : LH E l d b G0 Q1 st L xv (Int32.ofNat i) c := fun G' S' m n1 m1 k hI hk => by
      refine wpt_L_law__2293 ?_; unfold wp_L_law__2293
      rw [show Int32.ofNat i + 8 = Int32.ofNat (i + 8) from n_add i 8]
      exact ih (i + 8) G' S' m n1 m1 k (by omega) (by omega) hI hk
    refine wpt_L_law__23 ?_; unfold wp_L_law__23
    rw [hln]
    refine ⟨Or.inr hrd, fun c => absurd ((n_lt8 (by omega) (by omega)).mp c) (by omega), fun _ => ⟨Or.inr hrd, hv.1, fun _ => cs_feed htr hd hst hv hT hI hk, fun _ => cs_end htr hd hst hv hT hI hk, fun _ => cs_law htr hd hst hv hT hI hk, fun _ => cs_fault htr hd hst hv hT hI hk, fun _ => cs_person htr hd hst hv hT hI hk, fun _ => cs_name htr hd hst hv hT hI hk, fun _ => cs_sign htr hd hst hv hT hI hk, fun _ => cs_figure htr hd hst hv hT hI hk, fun _ => cs_far htr hd hst hv hT hI hk, fun _ => cs_tell htr hd hst hv hT hI hk, fun _ => cs_judge htr hd hst hv hT hI hk, fun _ => cs_ask htr hd hst hv hT hI hk, fun _ => cs_give htr hd hst hv hT hI hk, fun _ => cs_hands htr hd hst hv hT hI hk, fun _ => cs_lend htr hd hst hv hT hI hk, fun _ => cs_units htr hd hst hv hT hI hk, fun _ => cs_rules htr hd hst hv hT hI hk, fun _ => cs_order htr hd hst hv hT hI hk, fun _ => cs_blanks htr hd hst hv hT hI hk, fun _ => cs_broken htr hd hst hv hT hI hk, fun _ => cs_days htr hd hst hv hT hI hk, fun _ => cs_refuse htr hd hst hv hT hI hk, fun _ => cs_lose htr hd hst hv hT hI hk, fun _ => cs_again htr hd hst hv hT hI hk, fun _ => cs_led htr hd hst hv hT hI hk, fun _ => cs_queue htr hd hst hv hT hI hk, fun _ => cs_ahead htr hd hst hv hT hI hk, fun _ => cs_booklet htr hd hst hv hT hI hk, fun _ => cs_valid htr hd hst hv hT hI hk, fun _ => cs_missed htr hd hst hv hT hI hk, fun _ => cs_waits htr hd hst hv hT hI hk, fun _ => cs_ends htr hd hst hv hT hI hk, fun _ => cs_count htr hd hst hv hT hI hk, fun _ _ _ _ _ _ _ _ _ _ _ _ _ _ _ _ _ _ _ _ _ _ _ _ _ _ _ _ _ _ _ _ _ => hT G S m n1 m1 k hI (by unfold zbud at *; omega)⟩⟩
/-- the law's walk -/
theorem law_all (htr : l.stackTraces = false) (hd : 60 ≤ d) (hst : zst4 st) (hL : L ≤ 4096) (hW : WI Gi) (h0 : ∀ t, t ∈ CT → zcn Gi t = 0) (h1 : ∀ t, t ∈ RT → zcn Gi t = 0) (h2 : ∀ t, zrr t = true → ∀ j, ziv Gi (zp t 0) j = 0) (hs : zrd Gi (zp st 0) .int ∧ zln Gi (zp st 0) = L) : zWL E l mL_law_ d b G0 Q1 601024 0 [some (.ref (zp st 0)), none, none, none, none, none, none] [] Gi := by
  refine wpt_L_law__0 ?_
  unfold wp_L_law__0
  have d384 := h0 384 (by decide)
  refine ⟨by decide, 384, by decide, by decide, by decide, fun q2 e2 G3 e3 k4 e4 => ?_⟩
  rw [d384] at e2
  rw [znw1_of d384] at e3
  subst e2
  have o3 : zob G3 (zp 384 0) 12 := by rw [e3]; exact zob_1 (by omega) (by omega) (by decide)
  have z3 : ∀ t, t ∈ CT → t ≠ 384 → zcn G3 t = 0 := fun t ht hne => by
    rw [e3]
    show (if t = 384 then 1 else zcn Gi t) = 0
    rw [if_neg hne]; exact h0 t ht
  refine ⟨o3.1, xcV_of (c_initPO o3 z3) (by omega) (by rw [e4]; decide) ?_⟩
  have hfc : zfr CT Gi (sP7 G3) := by rw [e3]; exact sP_fr h0
  have hpo : ∀ S, RI0 S → PO (sP7 G3) S 0 0 0 (sP7 G3) := fun S hS => by rw [e3]; exact po_init hW h0 hS
  clear z3 o3 e3
  generalize sP7 G3 = Gc at *
  have rt : ∀ t, t ∈ RT → t < 4096 ∧ t ∉ CT := fun t ht => ⟨(by decide +kernel : ∀ t, t ∈ RT → t < 4096) t ht, fun hc => RT_CT t (List.mem_append_right _ hc) ht⟩
  have zc : ∀ t, t ∈ RT → zcn Gc t = 0 := fun t ht => by rw [hfc.2.1 t (rt t ht).2]; exact h1 t ht
  have vc : ∀ t, zrr t = true → ∀ j, ziv Gc (zp t 0) j = 0 := fun t ht j => by
    have h := RT_of ht
    rw [Nat.mod_eq_of_lt h.2] at h
    rw [hfc.iv h.2 (rt t h.1).2]; exact h2 t ht j
  have d416 := zc 416 (by decide +kernel)
  refine ⟨by rw [e4]; decide, 416, by decide, by decide, by decide, fun q8 e8 G9 e9 k10 e10 => ?_⟩
  rw [d416] at e8
  rw [znw1_of d416] at e9
  subst e8
  have o9 : zob G9 (zp 416 0) 13 := by rw [e9]; exact zob_1 (by omega) (by omega) (by decide)
  have hf9 : zfr RT Gc G9 := by rw [e9]; exact zfr.nw1 d416 (by omega) (by decide +kernel)
  have hm := c_initM (E := E) (l := l) o9 (fun x hx => by
    have hh := (by decide +kernel : ∀ x, x ∈ rtab ++ [(99, 2560, 3, 1)] → x.2.1 ∈ RT ∧ x.2.1 ≠ 416) x hx
    rw [e9]
    show (if x.2.1 = 416 then 1 else zcn Gc x.2.1) = 0
    rw [if_neg hh.2]; exact zc _ hh.1) (fun j => by
    rw [e9]
    show (if zp 416 0 = zp 416 0 then 0 else ziv Gc (zp 416 0) j) = 0
    rw [if_pos rfl]) (fun t ht hne j => by
    rw [e9]
    show (if zp t 0 = zp 416 0 then 0 else ziv Gc (zp t 0) j) = 0
    rw [if_neg (zp_ne (RT_of ht).2 (by omega) hne)]; exact vc t ht j)
  refine ⟨o9.1, cVx hm (by omega) (by rw [e10, e4]; decide) (fun G11 h11 => ?_)⟩
  obtain ⟨m1, m2, m3, m4, m5, m6⟩ := h11
  clear hm
  have d2560 : zcn G11 2560 = 0 := m3 (99, 2560, 3, 1) List.mem_cons_self
  refine ⟨by decide, by decide, by rw [e10, e4]; decide, 2560, by decide, by decide, by decide, fun q14 e14 G15 e15 k16 e16 => ?_⟩
  rw [d2560] at e14
  rw [znw1_of d2560] at e15
  subst e14
  have hf15 : zfr [2560] G11 G15 := by rw [e15]; exact zfr.nw1 d2560 (by omega) (by simp)
  have hfr : zfr RT Gc G15 := (hf9.trans m5).trans (hf15.mono (by decide +kernel))
  have rows : ∀ x, x ∈ rtab → zrv G15 (zp 416 0) x.1 = zp x.2.1 0 ∧ zar G15 (zp x.2.1 0) x.2.2.1 ∧ zln G15 (zp x.2.1 0) = x.2.2.2 ∧ ∀ j, ziv G15 (zp x.2.1 0) j = A0 x.2.1 j := fun x hx => by
    obtain ⟨a, bb, c, e⟩ := m2 x ((by decide +kernel : ∀ x, x ∈ rtab → x ∈ [(82, 1182, 0, 120), (81, 1181, 0, 120), (80, 1180, 0, 150), (79, 1179, 0, 840), (77, 1177, 0, 120), (70, 1170, 0, 150), (69, 1169, 0, 150), (68, 1168, 0, 150), (67, 1167, 0, 150), (65, 1165, 0, 840), (64, 1164, 0, 120), (63, 2163, 2, 120), (62, 1162, 0, 120), (61, 1161, 0, 120), (60, 1160, 0, 120), (59, 1159, 0, 120), (58, 2158, 2, 120), (57, 1157, 0, 120), (56, 1156, 0, 120), (55, 1155, 0, 120), (54, 1154, 0, 120), (53, 1153, 0, 120), (51, 1151, 0, 20), (50, 1150, 0, 20), (49, 1149, 0, 20), (48, 1148, 0, 20), (47, 1147, 0, 20), (46, 1146, 0, 4), (36, 1136, 0, 48), (35, 1135, 0, 6400), (33, 2133, 2, 80), (32, 1132, 0, 1920), (31, 1131, 0, 400), (30, 2130, 2, 80), (29, 1129, 0, 80), (22, 2122, 2, 400), (21, 1121, 0, 9), (18, 1118, 0, 5200), (17, 1117, 0, 5200), (16, 1116, 0, 5200), (15, 1115, 0, 208), (14, 1114, 0, 208), (13, 1113, 0, 208), (12, 1112, 0, 208), (11, 1111, 0, 13), (10, 1110, 0, 13), (9, 1109, 0, 5), (2, 1602, 1, 400)]) x hx)
    obtain ⟨-, t2, t3, -⟩ := rtab_CT x hx
    have n5 : x.2.1 ∉ [2560] := by simp; exact t3
    exact ⟨by rw [hf15.rv (by omega) (by decide)]; exact a, hf15.ar bb, by rw [hf15.ln t2 n5]; exact c, fun j => by rw [hf15.iv t2 n5]; exact e j⟩
  have hRI : RI0 (ziv G15) := fun t k ht => by
    have h := RT_of ht
    have e0 : ziv G15 t = ziv G15 (zp t 0) := by rw [zp_0]
    rw [e0]
    by_cases c : t = 416
    · rw [c, hf15.iv (by omega) (by decide), m4]
      unfold zin0
      rw [if_pos rfl]
      by_cases c8 : k = 8
      · rw [c8]; rfl
      by_cases c37 : k = 37
      · rw [c37]; rfl
      by_cases c38 : k = 38
      · rw [c38]; rfl
      by_cases c39 : k = 39
      · rw [c39]; rfl
      by_cases c40 : k = 40
      · rw [c40]; rfl
      by_cases c41 : k = 41
      · rw [c41]; rfl
      by_cases c44 : k = 44
      · rw [c44]; rfl
      rw [if_neg c8, if_neg c37, if_neg c38, if_neg c39, if_neg c40, if_neg c41, if_neg c44]
      show (if k = 44 then (1 : Int32) else if k = 41 then 9 else if k = 40 then 2 else if k = 39 then 10 else if k = 38 then 30 else if k = 37 then 20 else if k = 8 then (-1) else 0) = 0
      rw [if_neg c44, if_neg c41, if_neg c40, if_neg c39, if_neg c38, if_neg c37, if_neg c8]
    · by_cases c2 : ∃ x ∈ rtab, x.2.1 = t
      · obtain ⟨x, hx, ex⟩ := c2
        rw [← ex, (rows x hx).2.2.2 k]
        unfold A0 zin0
        rw [if_neg (show ¬ x.2.1 = 416 by rw [ex]; exact c)]
      · have n5 : t ∉ [2560] := fun z => by
          rw [List.mem_singleton.mp z] at ht; exact absurd ht (by decide)
        have hn : ∀ x ∈ [(82, 1182, 0, 120), (81, 1181, 0, 120), (80, 1180, 0, 150), (79, 1179, 0, 840), (77, 1177, 0, 120), (70, 1170, 0, 150), (69, 1169, 0, 150), (68, 1168, 0, 150), (67, 1167, 0, 150), (65, 1165, 0, 840), (64, 1164, 0, 120), (63, 2163, 2, 120), (62, 1162, 0, 120), (61, 1161, 0, 120), (60, 1160, 0, 120), (59, 1159, 0, 120), (58, 2158, 2, 120), (57, 1157, 0, 120), (56, 1156, 0, 120), (55, 1155, 0, 120), (54, 1154, 0, 120), (53, 1153, 0, 120), (51, 1151, 0, 20), (50, 1150, 0, 20), (49, 1149, 0, 20), (48, 1148, 0, 20), (47, 1147, 0, 20), (46, 1146, 0, 4), (36, 1136, 0, 48), (35, 1135, 0, 6400), (33, 2133, 2, 80), (32, 1132, 0, 1920), (31, 1131, 0, 400), (30, 2130, 2, 80), (29, 1129, 0, 80), (22, 2122, 2, 400), (21, 1121, 0, 9), (18, 1118, 0, 5200), (17, 1117, 0, 5200), (16, 1116, 0, 5200), (15, 1115, 0, 208), (14, 1114, 0, 208), (13, 1113, 0, 208), (12, 1112, 0, 208), (11, 1111, 0, 13), (10, 1110, 0, 13), (9, 1109, 0, 5), (2, 1602, 1, 400)], x.2.1 ≠ t := fun x hx ex => c2 ⟨x, (by decide +kernel : ∀ x, x ∈ [(82, 1182, 0, 120), (81, 1181, 0, 120), (80, 1180, 0, 150), (79, 1179, 0, 840), (77, 1177, 0, 120), (70, 1170, 0, 150), (69, 1169, 0, 150), (68, 1168, 0, 150), (67, 1167, 0, 150), (65, 1165, 0, 840), (64, 1164, 0, 120), (63, 2163, 2, 120), (62, 1162, 0, 120), (61, 1161, 0, 120), (60, 1160, 0, 120), (59, 1159, 0, 120), (58, 2158, 2, 120), (57, 1157, 0, 120), (56, 1156, 0, 120), (55, 1155, 0, 120), (54, 1154, 0, 120), (53, 1153, 0, 120), (51, 1151, 0, 20), (50, 1150, 0, 20), (49, 1149, 0, 20), (48, 1148, 0, 20), (47, 1147, 0, 20), (46, 1146, 0, 4), (36, 1136, 0, 48), (35, 1135, 0, 6400), (33, 2133, 2, 80), (32, 1132, 0, 1920), (31, 1131, 0, 400), (30, 2130, 2, 80), (29, 1129, 0, 80), (22, 2122, 2, 400), (21, 1121, 0, 9), (18, 1118, 0, 5200), (17, 1117, 0, 5200), (16, 1116, 0, 5200), (15, 1115, 0, 208), (14, 1114, 0, 208), (13, 1113, 0, 208), (12, 1112, 0, 208), (11, 1111, 0, 13), (10, 1110, 0, 13), (9, 1109, 0, 5), (2, 1602, 1, 400)] → x ∈ rtab) x hx, ex⟩
        rw [hf15.iv h.2 n5, m6 t ht c hn k]
        unfold zin0
        rw [if_neg c, if_neg (fun z => c2 ⟨(46, 1146, 0, 4), by decide +kernel, z.symm⟩)]
  have hPO : PO G15 (ziv G15) 0 0 0 G15 := (hpo _ hRI).rek hfr (fun _ h => h)
  have hst' := hst.no
  have hI : LI0 st L (ziv G15 (zp st 0)) G15 (ziv G15) 0 0 0 := by
    refine ⟨fun _ _ _ => rfl, hPO, ⟨fun a ha => ?_, fun a ha => ?_⟩, ⟨hf15.ob m1, fun x hx => ⟨(rows x hx).1, (rows x hx).2.1, (rows x hx).2.2.1⟩, fun n hn => hPO.wm.str hn⟩, ⟨zar_zp (by omega) (by omega) (by omega) ?_, ?_⟩, hfr.rd (hfc.rd hs.1), ?_, rfl⟩
    · have : nA (ziv G15) = 0 := by unfold nA; rw [hRI 416 66 rfl]; rfl
      rw [this] at ha; exact absurd ha (Nat.not_lt_zero _)
    · have : nA (ziv G15) = 0 := by unfold nA; rw [hRI 416 66 rfl]; rfl
      rw [this] at ha; exact absurd ha (Nat.not_lt_zero _)
    · rw [e15]; show 0 < (if 2560 = 2560 then 1 else zcn G11 2560); rw [if_pos rfl]; omega
    · rw [e15]; rfl
    · rw [hfr.ln hst'.2.2 hst'.2.1, hfc.ln hst'.2.2 hst'.1]; exact hs.2
  refine law_loop htr hd hst hL (L / 8) 0 G15 _ 0 0 0 k16 (by omega) (by omega) hI ?_
  have hk : k16 = 540407 := by rw [e16, e10, e4]; rfl
  rw [hk]
  unfold zbud
  omega
end ZAll
