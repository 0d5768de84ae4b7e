/-! the reference's constructor -/
def A0 (t j : Nat) : Int32 := if t = 1146 then (if j < 4 then 1 else 0) else 0
/-- while the reference is made: the rows that lie, those that come -/
def IM (G0 G : ZG) (dn td : List (Nat × Nat × Nat × Nat)) (F : Nat → Int32) : Prop := zob G (zp 416 0) 13 ∧ (∀ x ∈ dn, zrv G (zp 416 0) x.1 = zp x.2.1 0 ∧ zar G (zp x.2.1 0) x.2.2.1 ∧ zln G (zp x.2.1 0) = x.2.2.2 ∧ ∀ j, ziv G (zp x.2.1 0) j = A0 x.2.1 j) ∧ (∀ x ∈ td, zcn G x.2.1 = 0) ∧ (∀ j, ziv G (zp 416 0) j = F j) ∧ zfr RT G0 G ∧ ∀ t, zrr t = true → t ≠ 416 → (∀ x ∈ dn, x.2.1 ≠ t) → ∀ j, ziv G (zp t 0) j = 0
section ZInitM
variable {E : ZE} {l : Launch} {G0 G G3 G5 : ZG} {dn r : List (Nat × Nat × Nat × Nat)} {x : Nat × Nat × Nat × Nat} {F : Nat → Int32}
theorem IM.si {td : List (Nat × Nat × Nat × Nat)} {k : Nat} {v : Int32} (h : IM G0 G dn td F) (hd : ∀ y ∈ dn, y.2.1 ≠ 416 ∧ y.2.1 < 4096) : IM G0 (zsi G (zp 416 0) k v) dn td (fun j => if j = k then v else F j) := by
  obtain ⟨a, b, c, d, e, f⟩ := h
  refine ⟨a, fun y hy => ?_, c, fun j => ?_, e.trans (zfr.si (by rw [zp_mod (by omega)]; decide +kernel)), fun t h1 h2 h3 j => ?_⟩
  · obtain ⟨b1, b2, b3, b4⟩ := b y hy
    obtain ⟨n1, n2⟩ := hd y hy
    exact ⟨b1, b2, b3, fun j => by rw [iv_n (zp_ne n2 (by omega) n1)]; exact b4 j⟩
  · show _ = (if j = k then v else F j)
    rw [ziv_si]
    by_cases c : j = k
    · rw [if_pos ⟨rfl, c⟩, if_pos c]
    · rw [if_neg (fun z => c z.2), if_neg c]; exact d j
  · rw [iv_n (zp_ne (RT_of h1).2 (by omega) h2)]; exact f t h1 h2 h3 j
/-- the array is made; its place is told -/
theorem IM.pt {GA GB : ZG} (h : IM G0 GA dn (x :: r) F) (hx : x.2.1 ∈ RT ∧ 1024 ≤ x.2.1 ∧ x.2.1 < 3584 ∧ (x.2.1 - 1024) / 512 = x.2.2.1) (hd : ∀ y ∈ dn, y.2.1 ≠ x.2.1 ∧ y.1 ≠ x.1) (hd2 : ∀ y ∈ dn, y.2.1 ≠ 416 ∧ y.2.1 < 4096) (hr : ∀ y ∈ r, y.2.1 ≠ x.2.1)
    (hf : zfr [x.2.1] GA GB) (hc : zcn GB x.2.1 = 1) (hn : zln GB (zp x.2.1 0) = x.2.2.2) (hv : ∀ j, ziv GB (zp x.2.1 0) j = A0 x.2.1 j) : zob GB (zp 416 0) 13 ∧ ∀ G5, G5 = zsr GB (zp 416 0) x.1 (zp x.2.1 0) → IM G0 G5 (x :: dn) r F := by
  obtain ⟨a, b, c, d, e, f⟩ := h
  obtain ⟨x1, x2, x3, x4⟩ := hx
  have n416 : (416 : Nat) ∉ [x.2.1] := by simp; omega
  refine ⟨hf.ob a, fun G5 e5 => ?_⟩
  rw [e5]
  refine ⟨hf.ob a, fun y hy => ?_, fun y hy => ?_, fun j => ?_, ?_, fun t h1 h2 h3 j => ?_⟩
  · rcases List.mem_cons.mp hy with hy | hy
    · rw [hy]
      exact ⟨by rw [zrv_sr, if_pos ⟨rfl, rfl⟩], zar_zp (by omega) (by omega) x4 (by show 0 < zcn GB x.2.1; rw [hc]; omega), hn, hv⟩
    · obtain ⟨b1, b2, b3, b4⟩ := b y hy
      obtain ⟨n1, n2⟩ := hd y hy
      obtain ⟨n3, n4⟩ := hd2 y hy
      have ny : y.2.1 ∉ [x.2.1] := by simp; omega
      refine ⟨?_, hf.ar b2, ?_, fun j => ?_⟩
      · rw [zrv_sr, if_neg (fun z => n2 z.2), hf.rv (by omega) n416]; exact b1
      · show zln GB _ = _
        rw [hf.ln n4 ny]; exact b3
      · show ziv GB _ j = _
        rw [hf.iv n4 ny]; exact b4 j
  · show zcn GB y.2.1 = 0
    rw [hf.2.1 _ (by simp; exact hr y hy)]
    exact c y (List.mem_cons_of_mem _ hy)
  · show ziv GB _ j = _
    rw [hf.iv (by omega) n416]; exact d j
  · exact (e.trans (hf.mono (fun t ht => by rw [List.mem_singleton.mp ht]; exact x1))).trans (zfr.sr (by rw [zp_mod (by omega)]; decide +kernel))
  · show ziv GB _ j = _
    have ne : x.2.1 ≠ t := h3 x List.mem_cons_self
    rw [hf.iv (RT_of h1).2 (by simp; omega)]
    exact f t h1 h2 (fun y hy => h3 y (List.mem_cons_of_mem _ hy)) j
theorem IM.ar (h : IM G0 G dn (x :: r) F) (hx : x.2.1 ∈ RT ∧ 1024 ≤ x.2.1 ∧ x.2.1 < 3584 ∧ (x.2.1 - 1024) / 512 = x.2.2.1) (h46 : x.2.1 ≠ 1146) (hd : ∀ y ∈ dn, y.2.1 ≠ x.2.1 ∧ y.1 ≠ x.1) (hd2 : ∀ y ∈ dn, y.2.1 ≠ 416 ∧ y.2.1 < 4096) (hr : ∀ y ∈ r, y.2.1 ≠ x.2.1) (e3 : G3 = znw G x.2.1 x.2.2.2) : zob G3 (zp 416 0) 13 ∧ ∀ G5, G5 = zsr G3 (zp 416 0) x.1 (zp x.2.1 0) → IM G0 G5 (x :: dn) r F := by
  have z := h.2.2.1 x List.mem_cons_self
  have hlt : x.2.1 < 4096 := by omega
  refine h.pt hx hd hd2 hr (by rw [e3]; exact zfr.nw hlt (by simp)) (by rw [e3, zcn_nw, if_pos rfl, z]) (by rw [e3, zln_nw, z, if_pos rfl]) (fun j => ?_)
  rw [e3, ziv_nw, z, if_pos rfl]
  unfold A0
  rw [if_neg h46]
theorem c_initM (ho : zob G (zp 416 0) 13) (hz : ∀ x ∈ rtab ++ [(99, 2560, 3, 1)], zcn G x.2.1 = 0) (hv : ∀ j, ziv G (zp 416 0) j = 0) (h0 : ∀ t, zrr t = true → t ≠ 416 → ∀ j, ziv G (zp t 0) j = 0) : zMet E l mX12_init 1 60000 [.ref (zp 416 0)] G (zVx (fun G' => IM G G' [(82, 1182, 0, 120), (81, 1181, 0, 120), (80, 1180, 0, 150), (79, 1179, 0, 840), (77, 1177, 0, 120), (70, 1170, 0, 150), (69, 1169, 0, 150), (68, 1168, 0, 150), (67, 1167, 0, 150), (65, 1165, 0, 840), (64, 1164, 0, 120), (63, 2163, 2, 120), (62, 1162, 0, 120), (61, 1161, 0, 120), (60, 1160, 0, 120), (59, 1159, 0, 120), (58, 2158, 2, 120), (57, 1157, 0, 120), (56, 1156, 0, 120), (55, 1155, 0, 120), (54, 1154, 0, 120), (53, 1153, 0, 120), (51, 1151, 0, 20), (50, 1150, 0, 20), (49, 1149, 0, 20), (48, 1148, 0, 20), (47, 1147, 0, 20), (46, 1146, 0, 4), (36, 1136, 0, 48), (35, 1135, 0, 6400), (33, 2133, 2, 80), (32, 1132, 0, 1920), (31, 1131, 0, 400), (30, 2130, 2, 80), (29, 1129, 0, 80), (22, 2122, 2, 400), (21, 1121, 0, 9), (18, 1118, 0, 5200), (17, 1117, 0, 5200), (16, 1116, 0, 5200), (15, 1115, 0, 208), (14, 1114, 0, 208), (13, 1113, 0, 208), (12, 1112, 0, 208), (11, 1111, 0, 13), (10, 1110, 0, 13), (9, 1109, 0, 5), (2, 1602, 1, 400)] [(99, 2560, 3, 1)] (fun j => if j = 44 then 1 else if j = 41 then 9 else if j = 40 then 2 else if j = 39 then 10 else if j = 38 then 30 else if j = 37 then 20 else if j = 8 then (-1) else (0 : Int32)))) := by
  generalize hQ : (zVx (fun G' => IM G G' [(82, 1182, 0, 120), (81, 1181, 0, 120), (80, 1180, 0, 150), (79, 1179, 0, 840), (77, 1177, 0, 120), (70, 1170, 0, 150), (69, 1169, 0, 150), (68, 1168, 0, 150), (67, 1167, 0, 150), (65, 1165, 0, 840), (64, 1164, 0, 120), (63, 2163, 2, 120), (62, 1162, 0, 120), (61, 1161, 0, 120), (60, 1160, 0, 120), (59, 1159, 0, 120), (58, 2158, 2, 120), (57, 1157, 0, 120), (56, 1156, 0, 120), (55, 1155, 0, 120), (54, 1154, 0, 120), (53, 1153, 0, 120), (51, 1151, 0, 20), (50, 1150, 0, 20), (49, 1149, 0, 20), (48, 1148, 0, 20), (47, 1147, 0, 20), (46, 1146, 0, 4), (36, 1136, 0, 48), (35, 1135, 0, 6400), (33, 2133, 2, 80), (32, 1132, 0, 1920), (31, 1131, 0, 400), (30, 2130, 2, 80), (29, 1129, 0, 80), (22, 2122, 2, 400), (21, 1121, 0, 9), (18, 1118, 0, 5200), (17, 1117, 0, 5200), (16, 1116, 0, 5200), (15, 1115, 0, 208), (14, 1114, 0, 208), (13, 1113, 0, 208), (12, 1112, 0, 208), (11, 1111, 0, 13), (10, 1110, 0, 13), (9, 1109, 0, 5), (2, 1602, 1, 400)] [(99, 2560, 3, 1)] (fun j => if j = 44 then 1 else if j = 41 then 9 else if j = 40 then 2 else if j = 39 then 10 else if j = 38 then 30 else if j = 37 then 20 else if j = 8 then (-1) else (0 : Int32)))) = Q
  have h : IM G G [] [(2, 1602, 1, 400), (9, 1109, 0, 5), (10, 1110, 0, 13), (11, 1111, 0, 13), (12, 1112, 0, 208), (13, 1113, 0, 208), (14, 1114, 0, 208), (15, 1115, 0, 208), (16, 1116, 0, 5200), (17, 1117, 0, 5200), (18, 1118, 0, 5200), (21, 1121, 0, 9), (22, 2122, 2, 400), (29, 1129, 0, 80), (30, 2130, 2, 80), (31, 1131, 0, 400), (32, 1132, 0, 1920), (33, 2133, 2, 80), (35, 1135, 0, 6400), (36, 1136, 0, 48), (46, 1146, 0, 4), (47, 1147, 0, 20), (48, 1148, 0, 20), (49, 1149, 0, 20), (50, 1150, 0, 20), (51, 1151, 0, 20), (53, 1153, 0, 120), (54, 1154, 0, 120), (55, 1155, 0, 120), (56, 1156, 0, 120), (57, 1157, 0, 120), (58, 2158, 2, 120), (59, 1159, 0, 120), (60, 1160, 0, 120), (61, 1161, 0, 120), (62, 1162, 0, 120), (63, 2163, 2, 120), (64, 1164, 0, 120), (65, 1165, 0, 840), (67, 1167, 0, 150), (68, 1168, 0, 150), (69, 1169, 0, 150), (70, 1170, 0, 150), (77, 1177, 0, 120), (79, 1179, 0, 840), (80, 1180, 0, 150), (81, 1181, 0, 120), (82, 1182, 0, 120), (99, 2560, 3, 1)] (fun _ => 0) := ⟨ho, fun y hy => (nomatch hy), hz, hv, zfr.rf, fun t h1 h2 _ j => h0 t h1 h2 j⟩
  refine z_meth (by decide) (Nat.le_of_ble_eq_true rfl) (by simp [Value.category]) (wpt_X12_init_0 ?_); unfold wp_X12_init_0
  refine ⟨ho.1, by decide, ?_⟩
  have hk : 60000 ≤ 60000 := Nat.le_refl _
  refine ⟨by decide, by decide, by show 400 + 1 ≤ 60000; omega, 1602, by decide, by decide, by decide, fun q_1 e_1 G_1 f_1 k_1 g_1 => ?_⟩
  have z_1 := h.2.2.1 (2, 1602, 1, 400) List.mem_cons_self
  have z_1 : zcn G 1602 = 0 := z_1
  rw [z_1] at e_1
  subst e_1
  have hk_1 : 59599 ≤ k_1 := by rw [g_1]; show _ ≤ 60000 - (400 + 1); omega
  clear g_1
  obtain ⟨o_1, p_1⟩ := h.ar (x := (2, 1602, 1, 400)) ⟨by decide +kernel, by decide, by decide, by decide⟩ (by decide) (by decide) (by decide) (by decide) f_1
  refine ⟨o_1, fun H_1 u_1 => ?_⟩
  have h_1 := p_1 _ u_1
  clear p_1 o_1
  refine ⟨h_1.1, fun H_2 u_2 => ?_⟩
  have h_2 := h_1.si (k := 8) (v := (-1)) (by decide)
  rw [← u_2] at h_2
  refine ⟨by decide, by decide, by show 5 + 1 ≤ k_1; omega, 1109, by decide, by decide, by decide, fun q_3 e_3 G_3 f_3 k_3 g_3 => ?_⟩
  have z_3 := h_2.2.2.1 (9, 1109, 0, 5) List.mem_cons_self
  have z_3 : zcn H_2 1109 = 0 := z_3
  rw [z_3] at e_3
  subst e_3
  have hk_3 : 59593 ≤ k_3 := by rw [g_3]; show _ ≤ k_1 - (5 + 1); omega
  clear g_3
  obtain ⟨o_3, p_3⟩ := h_2.ar (x := (9, 1109, 0, 5)) ⟨by decide +kernel, by decide, by decide, by decide⟩ (by decide) (by decide) (by decide) (by decide) f_3
  refine ⟨o_3, fun H_3 u_3 => ?_⟩
  have h_3 := p_3 _ u_3
  clear p_3 o_3
  refine ⟨by decide, by decide, by show 13 + 1 ≤ k_3; omega, 1110, by decide, by decide, by decide, fun q_4 e_4 G_4 f_4 k_4 g_4 => ?_⟩
  have z_4 := h_3.2.2.1 (10, 1110, 0, 13) List.mem_cons_self
  have z_4 : zcn H_3 1110 = 0 := z_4
  rw [z_4] at e_4
  subst e_4
  have hk_4 : 59579 ≤ k_4 := by rw [g_4]; show _ ≤ k_3 - (13 + 1); omega
  clear g_4
  obtain ⟨o_4, p_4⟩ := h_3.ar (x := (10, 1110, 0, 13)) ⟨by decide +kernel, by decide, by decide, by decide⟩ (by decide) (by decide) (by decide) (by decide) f_4
  refine ⟨o_4, fun H_4 u_4 => ?_⟩
  have h_4 := p_4 _ u_4
  clear p_4 o_4
  refine ⟨by decide, by decide, by show 13 + 1 ≤ k_4; omega, 1111, by decide, by decide, by decide, fun q_5 e_5 G_5 f_5 k_5 g_5 => ?_⟩
  have z_5 := h_4.2.2.1 (11, 1111, 0, 13) List.mem_cons_self
  have z_5 : zcn H_4 1111 = 0 := z_5
  rw [z_5] at e_5
  subst e_5
  have hk_5 : 59565 ≤ k_5 := by rw [g_5]; show _ ≤ k_4 - (13 + 1); omega
  clear g_5
  obtain ⟨o_5, p_5⟩ := h_4.ar (x := (11, 1111, 0, 13)) ⟨by decide +kernel, by decide, by decide, by decide⟩ (by decide) (by decide) (by decide) (by decide) f_5
  refine ⟨o_5, fun H_5 u_5 => ?_⟩
  have h_5 := p_5 _ u_5
  clear p_5 o_5
  refine ⟨by decide, by decide, by show 208 + 1 ≤ k_5; omega, 1112, by decide, by decide, by decide, fun q_6 e_6 G_6 f_6 k_6 g_6 => ?_⟩
  have z_6 := h_5.2.2.1 (12, 1112, 0, 208) List.mem_cons_self
  have z_6 : zcn H_5 1112 = 0 := z_6
  rw [z_6] at e_6
  subst e_6
  have hk_6 : 59356 ≤ k_6 := by rw [g_6]; show _ ≤ k_5 - (208 + 1); omega
  clear g_6
  obtain ⟨o_6, p_6⟩ := h_5.ar (x := (12, 1112, 0, 208)) ⟨by decide +kernel, by decide, by decide, by decide⟩ (by decide) (by decide) (by decide) (by decide) f_6
  refine ⟨o_6, fun H_6 u_6 => ?_⟩
  have h_6 := p_6 _ u_6
  clear p_6 o_6
  refine ⟨by decide, by decide, by show 208 + 1 ≤ k_6; omega, 1113, by decide, by decide, by decide, fun q_7 e_7 G_7 f_7 k_7 g_7 => ?_⟩
  have z_7 := h_6.2.2.1 (13, 1113, 0, 208) List.mem_cons_self
  have z_7 : zcn H_6 1113 = 0 := z_7
  rw [z_7] at e_7
  subst e_7
  have hk_7 : 59147 ≤ k_7 := by rw [g_7]; show _ ≤ k_6 - (208 + 1); omega
  clear g_7
  obtain ⟨o_7, p_7⟩ := h_6.ar (x := (13, 1113, 0, 208)) ⟨by decide +kernel, by decide, by decide, by decide⟩ (by decide) (by decide) (by decide) (by decide) f_7
  refine ⟨o_7, fun H_7 u_7 => ?_⟩
  have h_7 := p_7 _ u_7
  clear p_7 o_7
  refine ⟨by decide, by decide, by show 208 + 1 ≤ k_7; omega, 1114, by decide, by decide, by decide, fun q_8 e_8 G_8 f_8 k_8 g_8 => ?_⟩
  have z_8 := h_7.2.2.1 (14, 1114, 0, 208) List.mem_cons_self
  have z_8 : zcn H_7 1114 = 0 := z_8
  rw [z_8] at e_8
  subst e_8
  have hk_8 : 58938 ≤ k_8 := by rw [g_8]; show _ ≤ k_7 - (208 + 1); omega
  clear g_8
  obtain ⟨o_8, p_8⟩ := h_7.ar (x := (14, 1114, 0, 208)) ⟨by decide +kernel, by decide, by decide, by decide⟩ (by decide) (by decide) (by decide) (by decide) f_8
  refine ⟨o_8, fun H_8 u_8 => ?_⟩
  have h_8 := p_8 _ u_8
  clear p_8 o_8
  refine ⟨by decide, by decide, by show 208 + 1 ≤ k_8; omega, 1115, by decide, by decide, by decide, fun q_9 e_9 G_9 f_9 k_9 g_9 => ?_⟩
  have z_9 := h_8.2.2.1 (15, 1115, 0, 208) List.mem_cons_self
  have z_9 : zcn H_8 1115 = 0 := z_9
  rw [z_9] at e_9
  subst e_9
  have hk_9 : 58729 ≤ k_9 := by rw [g_9]; show _ ≤ k_8 - (208 + 1); omega
  clear g_9
  obtain ⟨o_9, p_9⟩ := h_8.ar (x := (15, 1115, 0, 208)) ⟨by decide +kernel, by decide, by decide, by decide⟩ (by decide) (by decide) (by decide) (by decide) f_9
  refine ⟨o_9, fun H_9 u_9 => ?_⟩
  have h_9 := p_9 _ u_9
  clear p_9 o_9
  refine ⟨by decide, by decide, by show 5200 + 1 ≤ k_9; omega, 1116, by decide, by decide, by decide, fun q_10 e_10 G_10 f_10 k_10 g_10 => ?_⟩
  have z_10 := h_9.2.2.1 (16, 1116, 0, 5200) List.mem_cons_self
  have z_10 : zcn H_9 1116 = 0 := z_10
  rw [z_10] at e_10
  subst e_10
  have hk_10 : 53528 ≤ k_10 := by rw [g_10]; show _ ≤ k_9 - (5200 + 1); omega
  clear g_10
  obtain ⟨o_10, p_10⟩ := h_9.ar (x := (16, 1116, 0, 5200)) ⟨by decide +kernel, by decide, by decide, by decide⟩ (by decide) (by decide) (by decide) (by decide) f_10
  refine ⟨o_10, fun H_10 u_10 => ?_⟩
  have h_10 := p_10 _ u_10
  clear p_10 o_10
  refine ⟨by decide, by decide, by show 5200 + 1 ≤ k_10; omega, 1117, by decide, by decide, by decide, fun q_11 e_11 G_11 f_11 k_11 g_11 => ?_⟩
  have z_11 := h_10.2.2.1 (17, 1117, 0, 5200) List.mem_cons_self
  have z_11 : zcn H_10 1117 = 0 := z_11
  rw [z_11] at e_11
  subst e_11
  have hk_11 : 48327 ≤ k_11 := by rw [g_11]; show _ ≤ k_10 - (5200 + 1); omega
  clear g_11
  obtain ⟨o_11, p_11⟩ := h_10.ar (x := (17, 1117, 0, 5200)) ⟨by decide +kernel, by decide, by decide, by decide⟩ (by decide) (by decide) (by decide) (by decide) f_11
  refine ⟨o_11, fun H_11 u_11 => ?_⟩
  have h_11 := p_11 _ u_11
  clear p_11 o_11
  refine wpt_X12_init_95 ?_; unfold wp_X12_init_95
  refine ⟨by decide, by decide, by show 5200 + 1 ≤ k_11; omega, 1118, by decide, by decide, by decide, fun q_12 e_12 G_12 f_12 k_12 g_12 => ?_⟩
  have z_12 := h_11.2.2.1 (18, 1118, 0, 5200) List.mem_cons_self
  have z_12 : zcn H_11 1118 = 0 := z_12
  rw [z_12] at e_12
  subst e_12
  have hk_12 : 43126 ≤ k_12 := by rw [g_12]; show _ ≤ k_11 - (5200 + 1); omega
  clear g_12
  obtain ⟨o_12, p_12⟩ := h_11.ar (x := (18, 1118, 0, 5200)) ⟨by decide +kernel, by decide, by decide, by decide⟩ (by decide) (by decide) (by decide) (by decide) f_12
  refine ⟨o_12, fun H_12 u_12 => ?_⟩
  have h_12 := p_12 _ u_12
  clear p_12 o_12
  refine ⟨by decide, by decide, by show 9 + 1 ≤ k_12; omega, 1121, by decide, by decide, by decide, fun q_13 e_13 G_13 f_13 k_13 g_13 => ?_⟩
  have z_13 := h_12.2.2.1 (21, 1121, 0, 9) List.mem_cons_self
  have z_13 : zcn H_12 1121 = 0 := z_13
  rw [z_13] at e_13
  subst e_13
  have hk_13 : 43116 ≤ k_13 := by rw [g_13]; show _ ≤ k_12 - (9 + 1); omega
  clear g_13
  obtain ⟨o_13, p_13⟩ := h_12.ar (x := (21, 1121, 0, 9)) ⟨by decide +kernel, by decide, by decide, by decide⟩ (by decide) (by decide) (by decide) (by decide) f_13
  refine ⟨o_13, fun H_13 u_13 => ?_⟩
  have h_13 := p_13 _ u_13
  clear p_13 o_13
  refine ⟨by decide, by decide, by show 400 + 1 ≤ k_13; omega, 2122, by decide, by decide, by decide, fun q_14 e_14 G_14 f_14 k_14 g_14 => ?_⟩
  have z_14 := h_13.2.2.1 (22, 2122, 2, 400) List.mem_cons_self
  have z_14 : zcn H_13 2122 = 0 := z_14
  rw [z_14] at e_14
  subst e_14
  have hk_14 : 42715 ≤ k_14 := by rw [g_14]; show _ ≤ k_13 - (400 + 1); omega
  clear g_14
  obtain ⟨o_14, p_14⟩ := h_13.ar (x := (22, 2122, 2, 400)) ⟨by decide +kernel, by decide, by decide, by decide⟩ (by decide) (by decide) (by decide) (by decide) f_14
  refine ⟨o_14, fun H_14 u_14 => ?_⟩
  have h_14 := p_14 _ u_14
  clear p_14 o_14
  refine ⟨by decide, by decide, by show 80 + 1 ≤ k_14; omega, 1129, by decide, by decide, by decide, fun q_15 e_15 G_15 f_15 k_15 g_15 => ?_⟩
  have z_15 := h_14.2.2.1 (29, 1129, 0, 80) List.mem_cons_self
  have z_15 : zcn H_14 1129 = 0 := z_15
  rw [z_15] at e_15
  subst e_15
  have hk_15 : 42634 ≤ k_15 := by rw [g_15]; show _ ≤ k_14 - (80 + 1); omega
  clear g_15
  obtain ⟨o_15, p_15⟩ := h_14.ar (x := (29, 1129, 0, 80)) ⟨by decide +kernel, by decide, by decide, by decide⟩ (by decide) (by decide) (by decide) (by decide) f_15
  refine ⟨o_15, fun H_15 u_15 => ?_⟩
  have h_15 := p_15 _ u_15
  clear p_15 o_15
  refine ⟨by decide, by decide, by show 80 + 1 ≤ k_15; omega, 2130, by decide, by decide, by decide, fun q_16 e_16 G_16 f_16 k_16 g_16 => ?_⟩
  have z_16 := h_15.2.2.1 (30, 2130, 2, 80) List.mem_cons_self
  have z_16 : zcn H_15 2130 = 0 := z_16
  rw [z_16] at e_16
  subst e_16
  have hk_16 : 42553 ≤ k_16 := by rw [g_16]; show _ ≤ k_15 - (80 + 1); omega
  clear g_16
  obtain ⟨o_16, p_16⟩ := h_15.ar (x := (30, 2130, 2, 80)) ⟨by decide +kernel, by decide, by decide, by decide⟩ (by decide) (by decide) (by decide) (by decide) f_16
  refine ⟨o_16, fun H_16 u_16 => ?_⟩
  have h_16 := p_16 _ u_16
  clear p_16 o_16
  refine ⟨by decide, by decide, by show 400 + 1 ≤ k_16; omega, 1131, by decide, by decide, by decide, fun q_17 e_17 G_17 f_17 k_17 g_17 => ?_⟩
  have z_17 := h_16.2.2.1 (31, 1131, 0, 400) List.mem_cons_self
  have z_17 : zcn H_16 1131 = 0 := z_17
  rw [z_17] at e_17
  subst e_17
  have hk_17 : 42152 ≤ k_17 := by rw [g_17]; show _ ≤ k_16 - (400 + 1); omega
  clear g_17
  obtain ⟨o_17, p_17⟩ := h_16.ar (x := (31, 1131, 0, 400)) ⟨by decide +kernel, by decide, by decide, by decide⟩ (by decide) (by decide) (by decide) (by decide) f_17
  refine ⟨o_17, fun H_17 u_17 => ?_⟩
  have h_17 := p_17 _ u_17
  clear p_17 o_17
  refine ⟨by decide, by decide, by show 1920 + 1 ≤ k_17; omega, 1132, by decide, by decide, by decide, fun q_18 e_18 G_18 f_18 k_18 g_18 => ?_⟩
  have z_18 := h_17.2.2.1 (32, 1132, 0, 1920) List.mem_cons_self
  have z_18 : zcn H_17 1132 = 0 := z_18
  rw [z_18] at e_18
  subst e_18
  have hk_18 : 40231 ≤ k_18 := by rw [g_18]; show _ ≤ k_17 - (1920 + 1); omega
  clear g_18
  obtain ⟨o_18, p_18⟩ := h_17.ar (x := (32, 1132, 0, 1920)) ⟨by decide +kernel, by decide, by decide, by decide⟩ (by decide) (by decide) (by decide) (by decide) f_18
  refine ⟨o_18, fun H_18 u_18 => ?_⟩
  have h_18 := p_18 _ u_18
  clear p_18 o_18
  refine ⟨by decide, by decide, by show 80 + 1 ≤ k_18; omega, 2133, by decide, by decide, by decide, fun q_19 e_19 G_19 f_19 k_19 g_19 => ?_⟩
  have z_19 := h_18.2.2.1 (33, 2133, 2, 80) List.mem_cons_self
  have z_19 : zcn H_18 2133 = 0 := z_19
  rw [z_19] at e_19
  subst e_19
  have hk_19 : 40150 ≤ k_19 := by rw [g_19]; show _ ≤ k_18 - (80 + 1); omega
  clear g_19
  obtain ⟨o_19, p_19⟩ := h_18.ar (x := (33, 2133, 2, 80)) ⟨by decide +kernel, by decide, by decide, by decide⟩ (by decide) (by decide) (by decide) (by decide) f_19
  refine ⟨o_19, fun H_19 u_19 => ?_⟩
  have h_19 := p_19 _ u_19
  clear p_19 o_19
  refine ⟨by decide, by decide, by show 6400 + 1 ≤ k_19; omega, 1135, by decide, by decide, by decide, fun q_20 e_20 G_20 f_20 k_20 g_20 => ?_⟩
  have z_20 := h_19.2.2.1 (35, 1135, 0, 6400) List.mem_cons_self
  have z_20 : zcn H_19 1135 = 0 := z_20
  rw [z_20] at e_20
  subst e_20
  have hk_20 : 33749 ≤ k_20 := by rw [g_20]; show _ ≤ k_19 - (6400 + 1); omega
  clear g_20
  obtain ⟨o_20, p_20⟩ := h_19.ar (x := (35, 1135, 0, 6400)) ⟨by decide +kernel, by decide, by decide, by decide⟩ (by decide) (by decide) (by decide) (by decide) f_20
  refine ⟨o_20, fun H_20 u_20 => ?_⟩
  have h_20 := p_20 _ u_20
  clear p_20 o_20
  refine ⟨by decide, by decide, by show 48 + 1 ≤ k_20; omega, 1136, by decide, by decide, by decide, fun q_21 e_21 G_21 f_21 k_21 g_21 => ?_⟩
  have z_21 := h_20.2.2.1 (36, 1136, 0, 48) List.mem_cons_self
  have z_21 : zcn H_20 1136 = 0 := z_21
  rw [z_21] at e_21
  subst e_21
  have hk_21 : 33700 ≤ k_21 := by rw [g_21]; show _ ≤ k_20 - (48 + 1); omega
  clear g_21
  obtain ⟨o_21, p_21⟩ := h_20.ar (x := (36, 1136, 0, 48)) ⟨by decide +kernel, by decide, by decide, by decide⟩ (by decide) (by decide) (by decide) (by decide) f_21
  refine ⟨o_21, fun H_21 u_21 => ?_⟩
  have h_21 := p_21 _ u_21
  clear p_21 o_21
  refine ⟨h_21.1, fun H_22 u_22 => ?_⟩
  have h_22 := h_21.si (k := 37) (v := 20) (by decide)
  rw [← u_22] at h_22
  refine ⟨h_22.1, fun H_23 u_23 => ?_⟩
  have h_23 := h_22.si (k := 38) (v := 30) (by decide)
  rw [← u_23] at h_23
  refine wpt_X12_init_192 ?_; unfold wp_X12_init_192
  refine ⟨h_23.1, fun H_24 u_24 => ?_⟩
  have h_24 := h_23.si (k := 39) (v := 10) (by decide)
  rw [← u_24] at h_24
  refine ⟨h_24.1, fun H_25 u_25 => ?_⟩
  have h_25 := h_24.si (k := 40) (v := 2) (by decide)
  rw [← u_25] at h_25
  refine ⟨h_25.1, fun H_26 u_26 => ?_⟩
  have h_26 := h_25.si (k := 41) (v := 9) (by decide)
  rw [← u_26] at h_26
  refine ⟨h_26.1, fun H_27 u_27 => ?_⟩
  have h_27 := h_26.si (k := 44) (v := 1) (by decide)
  rw [← u_27] at h_27
  refine ⟨by decide, by decide, by show 4 + 1 ≤ k_21; omega, 1146, by decide, by decide, by decide, fun q_28 e_28 G_28 f_28 k_28 g_28 => ?_⟩
  have z_28 := h_27.2.2.1 (46, 1146, 0, 4) List.mem_cons_self
  have z_28 : zcn H_27 1146 = 0 := z_28
  rw [z_28] at e_28
  subst e_28
  have hk_28 : 33695 ≤ k_28 := by rw [g_28]; show _ ≤ k_21 - (4 + 1); omega
  clear g_28
  have z0_28 : zar G_28 (zp 1146 0) 0 ∧ zln G_28 (zp 1146 0) = 4 := by rw [f_28]; exact ⟨zar_zp (by omega) (by omega) (by omega) (by rw [zcn_nw, if_pos rfl]; omega), by rw [zln_nw, z_28, if_pos rfl]; rfl⟩
  refine ⟨z0_28.1, by rw [z0_28.2]; exact n_in (i := 0) (by omega) (by omega), fun S0 t0 => ?_⟩
  refine ⟨by rw [t0]; exact z0_28.1, by rw [t0]; exact (by show vp_in 1 (zln G_28 (zp 1146 0)); rw [z0_28.2]; exact n_in (i := 1) (by omega) (by omega)), fun S1 t1 => ?_⟩
  refine ⟨by rw [t1, t0]; exact z0_28.1, by rw [t1, t0]; exact (by show vp_in 2 (zln G_28 (zp 1146 0)); rw [z0_28.2]; exact n_in (i := 2) (by omega) (by omega)), fun S2 t2 => ?_⟩
  refine ⟨by rw [t2, t1, t0]; exact z0_28.1, by rw [t2, t1, t0]; exact (by show vp_in 3 (zln G_28 (zp 1146 0)); rw [z0_28.2]; exact n_in (i := 3) (by omega) (by omega)), fun S3 t3 => ?_⟩
  have v_28 : ∀ j, ziv S3 (zp 1146 0) j = A0 1146 j := fun j => by
    rw [t3, t2, t1, t0]
    show ziv (zsi (zsi (zsi (zsi G_28 (zp 1146 0) 0 1) (zp 1146 0) 1 1) (zp 1146 0) 2 1) (zp 1146 0) 3 1) (zp 1146 0) j = if j < 4 then 1 else 0
    have zz : ziv G_28 (zp 1146 0) j = 0 := by rw [f_28, ziv_nw, z_28, if_pos rfl]
    rw [ziv_si, ziv_si, ziv_si, ziv_si, zz]
    by_cases c3 : j = 3
    · rw [if_pos ⟨rfl, c3⟩, if_pos (by omega)]
    · rw [if_neg (fun z => c3 z.2)]
      by_cases c2 : j = 2
      · rw [if_pos ⟨rfl, c2⟩, if_pos (by omega)]
      · rw [if_neg (fun z => c2 z.2)]
        by_cases c1 : j = 1
        · rw [if_pos ⟨rfl, c1⟩, if_pos (by omega)]
        · rw [if_neg (fun z => c1 z.2)]
          by_cases c0 : j = 0
          · rw [if_pos ⟨rfl, c0⟩, if_pos (by omega)]
          · rw [if_neg (fun z => c0 z.2), if_neg (by omega)]
  obtain ⟨o_28, p_28⟩ := IM.pt (GB := S3) (x := (46, 1146, 0, 4)) h_27 ⟨by decide +kernel, by decide, by decide, by decide⟩ (by decide) (by decide) (by decide) (by rw [t3, t2, t1, t0, f_28]; exact ((((zfr.nw (by decide) (by decide)).trans (zfr.si (by decide))).trans (zfr.si (by decide))).trans (zfr.si (by decide))).trans (zfr.si (by decide))) (by rw [t3, t2, t1, t0, f_28]; show zcn (znw H_27 1146 4) 1146 = 1; rw [zcn_nw, if_pos rfl, z_28]) (by rw [t3, t2, t1, t0]; exact z0_28.2) v_28
  refine ⟨o_28, fun H_28 u_28 => ?_⟩
  have h_28 := p_28 _ u_28
  clear p_28 o_28
  refine ⟨by decide, by decide, by show 20 + 1 ≤ k_28; omega, 1147, by decide, by decide, by decide, fun q_29 e_29 G_29 f_29 k_29 g_29 => ?_⟩
  have z_29 := h_28.2.2.1 (47, 1147, 0, 20) List.mem_cons_self
  have z_29 : zcn H_28 1147 = 0 := z_29
  rw [z_29] at e_29
  subst e_29
  have hk_29 : 33674 ≤ k_29 := by rw [g_29]; show _ ≤ k_28 - (20 + 1); omega
  clear g_29
  obtain ⟨o_29, p_29⟩ := h_28.ar (x := (47, 1147, 0, 20)) ⟨by decide +kernel, by decide, by decide, by decide⟩ (by decide) (by decide) (by decide) (by decide) f_29
  refine ⟨o_29, fun H_29 u_29 => ?_⟩
  have h_29 := p_29 _ u_29
  clear p_29 o_29
  refine ⟨by decide, by decide, by show 20 + 1 ≤ k_29; omega, 1148, by decide, by decide, by decide, fun q_30 e_30 G_30 f_30 k_30 g_30 => ?_⟩
  have z_30 := h_29.2.2.1 (48, 1148, 0, 20) List.mem_cons_self
  have z_30 : zcn H_29 1148 = 0 := z_30
  rw [z_30] at e_30
  subst e_30
  have hk_30 : 33653 ≤ k_30 := by rw [g_30]; show _ ≤ k_29 - (20 + 1); omega
  clear g_30
  obtain ⟨o_30, p_30⟩ := h_29.ar (x := (48, 1148, 0, 20)) ⟨by decide +kernel, by decide, by decide, by decide⟩ (by decide) (by decide) (by decide) (by decide) f_30
  refine ⟨o_30, fun H_30 u_30 => ?_⟩
  have h_30 := p_30 _ u_30
  clear p_30 o_30
  refine ⟨by decide, by decide, by show 20 + 1 ≤ k_30; omega, 1149, by decide, by decide, by decide, fun q_31 e_31 G_31 f_31 k_31 g_31 => ?_⟩
  have z_31 := h_30.2.2.1 (49, 1149, 0, 20) List.mem_cons_self
  have z_31 : zcn H_30 1149 = 0 := z_31
  rw [z_31] at e_31
  subst e_31
  have hk_31 : 33632 ≤ k_31 := by rw [g_31]; show _ ≤ k_30 - (20 + 1); omega
  clear g_31
  obtain ⟨o_31, p_31⟩ := h_30.ar (x := (49, 1149, 0, 20)) ⟨by decide +kernel, by decide, by decide, by decide⟩ (by decide) (by decide) (by decide) (by decide) f_31
  refine ⟨o_31, fun H_31 u_31 => ?_⟩
  have h_31 := p_31 _ u_31
  clear p_31 o_31
  refine ⟨by decide, by decide, by show 20 + 1 ≤ k_31; omega, 1150, by decide, by decide, by decide, fun q_32 e_32 G_32 f_32 k_32 g_32 => ?_⟩
  have z_32 := h_31.2.2.1 (50, 1150, 0, 20) List.mem_cons_self
  have z_32 : zcn H_31 1150 = 0 := z_32
  rw [z_32] at e_32
  subst e_32
  have hk_32 : 33611 ≤ k_32 := by rw [g_32]; show _ ≤ k_31 - (20 + 1); omega
  clear g_32
  obtain ⟨o_32, p_32⟩ := h_31.ar (x := (50, 1150, 0, 20)) ⟨by decide +kernel, by decide, by decide, by decide⟩ (by decide) (by decide) (by decide) (by decide) f_32
  refine ⟨o_32, fun H_32 u_32 => ?_⟩
  have h_32 := p_32 _ u_32
  clear p_32 o_32
  refine wpt_X12_init_269 ?_; unfold wp_X12_init_269
  refine ⟨by decide, by decide, by show 20 + 1 ≤ k_32; omega, 1151, by decide, by decide, by decide, fun q_33 e_33 G_33 f_33 k_33 g_33 => ?_⟩
  have z_33 := h_32.2.2.1 (51, 1151, 0, 20) List.mem_cons_self
  have z_33 : zcn H_32 1151 = 0 := z_33
  rw [z_33] at e_33
  subst e_33
  have hk_33 : 33590 ≤ k_33 := by rw [g_33]; show _ ≤ k_32 - (20 + 1); omega
  clear g_33
  obtain ⟨o_33, p_33⟩ := h_32.ar (x := (51, 1151, 0, 20)) ⟨by decide +kernel, by decide, by decide, by decide⟩ (by decide) (by decide) (by decide) (by decide) f_33
  refine ⟨o_33, fun H_33 u_33 => ?_⟩
  have h_33 := p_33 _ u_33
  clear p_33 o_33
  refine ⟨by decide, by decide, by show 120 + 1 ≤ k_33; omega, 1153, by decide, by decide, by decide, fun q_34 e_34 G_34 f_34 k_34 g_34 => ?_⟩
  have z_34 := h_33.2.2.1 (53, 1153, 0, 120) List.mem_cons_self
  have z_34 : zcn H_33 1153 = 0 := z_34
  rw [z_34] at e_34
  subst e_34
  have hk_34 : 33469 ≤ k_34 := by rw [g_34]; show _ ≤ k_33 - (120 + 1); omega
  clear g_34
  obtain ⟨o_34, p_34⟩ := h_33.ar (x := (53, 1153, 0, 120)) ⟨by decide +kernel, by decide, by decide, by decide⟩ (by decide) (by decide) (by decide) (by decide) f_34
  refine ⟨o_34, fun H_34 u_34 => ?_⟩
  have h_34 := p_34 _ u_34
  clear p_34 o_34
  refine ⟨by decide, by decide, by show 120 + 1 ≤ k_34; omega, 1154, by decide, by decide, by decide, fun q_35 e_35 G_35 f_35 k_35 g_35 => ?_⟩
  have z_35 := h_34.2.2.1 (54, 1154, 0, 120) List.mem_cons_self
  have z_35 : zcn H_34 1154 = 0 := z_35
  rw [z_35] at e_35
  subst e_35
  have hk_35 : 33348 ≤ k_35 := by rw [g_35]; show _ ≤ k_34 - (120 + 1); omega
  clear g_35
  obtain ⟨o_35, p_35⟩ := h_34.ar (x := (54, 1154, 0, 120)) ⟨by decide +kernel, by decide, by decide, by decide⟩ (by decide) (by decide) (by decide) (by decide) f_35
  refine ⟨o_35, fun H_35 u_35 => ?_⟩
  have h_35 := p_35 _ u_35
  clear p_35 o_35
  refine ⟨by decide, by decide, by show 120 + 1 ≤ k_35; omega, 1155, by decide, by decide, by decide, fun q_36 e_36 G_36 f_36 k_36 g_36 => ?_⟩
  have z_36 := h_35.2.2.1 (55, 1155, 0, 120) List.mem_cons_self
  have z_36 : zcn H_35 1155 = 0 := z_36
  rw [z_36] at e_36
  subst e_36
  have hk_36 : 33227 ≤ k_36 := by rw [g_36]; show _ ≤ k_35 - (120 + 1); omega
  clear g_36
  obtain ⟨o_36, p_36⟩ := h_35.ar (x := (55, 1155, 0, 120)) ⟨by decide +kernel, by decide, by decide, by decide⟩ (by decide) (by decide) (by decide) (by decide) f_36
  refine ⟨o_36, fun H_36 u_36 => ?_⟩
  have h_36 := p_36 _ u_36
  clear p_36 o_36
  refine ⟨by decide, by decide, by show 120 + 1 ≤ k_36; omega, 1156, by decide, by decide, by decide, fun q_37 e_37 G_37 f_37 k_37 g_37 => ?_⟩
  have z_37 := h_36.2.2.1 (56, 1156, 0, 120) List.mem_cons_self
  have z_37 : zcn H_36 1156 = 0 := z_37
  rw [z_37] at e_37
  subst e_37
  have hk_37 : 33106 ≤ k_37 := by rw [g_37]; show _ ≤ k_36 - (120 + 1); omega
  clear g_37
  obtain ⟨o_37, p_37⟩ := h_36.ar (x := (56, 1156, 0, 120)) ⟨by decide +kernel, by decide, by decide, by decide⟩ (by decide) (by decide) (by decide) (by decide) f_37
  refine ⟨o_37, fun H_37 u_37 => ?_⟩
  have h_37 := p_37 _ u_37
  clear p_37 o_37
  refine ⟨by decide, by decide, by show 120 + 1 ≤ k_37; omega, 1157, by decide, by decide, by decide, fun q_38 e_38 G_38 f_38 k_38 g_38 => ?_⟩
  have z_38 := h_37.2.2.1 (57, 1157, 0, 120) List.mem_cons_self
  have z_38 : zcn H_37 1157 = 0 := z_38
  rw [z_38] at e_38
  subst e_38
  have hk_38 : 32985 ≤ k_38 := by rw [g_38]; show _ ≤ k_37 - (120 + 1); omega
  clear g_38
  obtain ⟨o_38, p_38⟩ := h_37.ar (x := (57, 1157, 0, 120)) ⟨by decide +kernel, by decide, by decide, by decide⟩ (by decide) (by decide) (by decide) (by decide) f_38
  refine ⟨o_38, fun H_38 u_38 => ?_⟩
  have h_38 := p_38 _ u_38
  clear p_38 o_38
  refine ⟨by decide, by decide, by show 120 + 1 ≤ k_38; omega, 2158, by decide, by decide, by decide, fun q_39 e_39 G_39 f_39 k_39 g_39 => ?_⟩
  have z_39 := h_38.2.2.1 (58, 2158, 2, 120) List.mem_cons_self
  have z_39 : zcn H_38 2158 = 0 := z_39
  rw [z_39] at e_39
  subst e_39
  have hk_39 : 32864 ≤ k_39 := by rw [g_39]; show _ ≤ k_38 - (120 + 1); omega
  clear g_39
  obtain ⟨o_39, p_39⟩ := h_38.ar (x := (58, 2158, 2, 120)) ⟨by decide +kernel, by decide, by decide, by decide⟩ (by decide) (by decide) (by decide) (by decide) f_39
  refine ⟨o_39, fun H_39 u_39 => ?_⟩
  have h_39 := p_39 _ u_39
  clear p_39 o_39
  refine ⟨by decide, by decide, by show 120 + 1 ≤ k_39; omega, 1159, by decide, by decide, by decide, fun q_40 e_40 G_40 f_40 k_40 g_40 => ?_⟩
  have z_40 := h_39.2.2.1 (59, 1159, 0, 120) List.mem_cons_self
  have z_40 : zcn H_39 1159 = 0 := z_40
  rw [z_40] at e_40
  subst e_40
  have hk_40 : 32743 ≤ k_40 := by rw [g_40]; show _ ≤ k_39 - (120 + 1); omega
  clear g_40
  obtain ⟨o_40, p_40⟩ := h_39.ar (x := (59, 1159, 0, 120)) ⟨by decide +kernel, by decide, by decide, by decide⟩ (by decide) (by decide) (by decide) (by decide) f_40
  refine ⟨o_40, fun H_40 u_40 => ?_⟩
  have h_40 := p_40 _ u_40
  clear p_40 o_40
  refine ⟨by decide, by decide, by show 120 + 1 ≤ k_40; omega, 1160, by decide, by decide, by decide, fun q_41 e_41 G_41 f_41 k_41 g_41 => ?_⟩
  have z_41 := h_40.2.2.1 (60, 1160, 0, 120) List.mem_cons_self
  have z_41 : zcn H_40 1160 = 0 := z_41
  rw [z_41] at e_41
  subst e_41
  have hk_41 : 32622 ≤ k_41 := by rw [g_41]; show _ ≤ k_40 - (120 + 1); omega
  clear g_41
  obtain ⟨o_41, p_41⟩ := h_40.ar (x := (60, 1160, 0, 120)) ⟨by decide +kernel, by decide, by decide, by decide⟩ (by decide) (by decide) (by decide) (by decide) f_41
  refine ⟨o_41, fun H_41 u_41 => ?_⟩
  have h_41 := p_41 _ u_41
  clear p_41 o_41
  refine ⟨by decide, by decide, by show 120 + 1 ≤ k_41; omega, 1161, by decide, by decide, by decide, fun q_42 e_42 G_42 f_42 k_42 g_42 => ?_⟩
  have z_42 := h_41.2.2.1 (61, 1161, 0, 120) List.mem_cons_self
  have z_42 : zcn H_41 1161 = 0 := z_42
  rw [z_42] at e_42
  subst e_42
  have hk_42 : 32501 ≤ k_42 := by rw [g_42]; show _ ≤ k_41 - (120 + 1); omega
  clear g_42
  obtain ⟨o_42, p_42⟩ := h_41.ar (x := (61, 1161, 0, 120)) ⟨by decide +kernel, by decide, by decide, by decide⟩ (by decide) (by decide) (by decide) (by decide) f_42
  refine ⟨o_42, fun H_42 u_42 => ?_⟩
  have h_42 := p_42 _ u_42
  clear p_42 o_42
  refine ⟨by decide, by decide, by show 120 + 1 ≤ k_42; omega, 1162, by decide, by decide, by decide, fun q_43 e_43 G_43 f_43 k_43 g_43 => ?_⟩
  have z_43 := h_42.2.2.1 (62, 1162, 0, 120) List.mem_cons_self
  have z_43 : zcn H_42 1162 = 0 := z_43
  rw [z_43] at e_43
  subst e_43
  have hk_43 : 32380 ≤ k_43 := by rw [g_43]; show _ ≤ k_42 - (120 + 1); omega
  clear g_43
  obtain ⟨o_43, p_43⟩ := h_42.ar (x := (62, 1162, 0, 120)) ⟨by decide +kernel, by decide, by decide, by decide⟩ (by decide) (by decide) (by decide) (by decide) f_43
  refine ⟨o_43, fun H_43 u_43 => ?_⟩
  have h_43 := p_43 _ u_43
  clear p_43 o_43
  refine ⟨by decide, by decide, by show 120 + 1 ≤ k_43; omega, 2163, by decide, by decide, by decide, fun q_44 e_44 G_44 f_44 k_44 g_44 => ?_⟩
  have z_44 := h_43.2.2.1 (63, 2163, 2, 120) List.mem_cons_self
  have z_44 : zcn H_43 2163 = 0 := z_44
  rw [z_44] at e_44
  subst e_44
  have hk_44 : 32259 ≤ k_44 := by rw [g_44]; show _ ≤ k_43 - (120 + 1); omega
  clear g_44
  obtain ⟨o_44, p_44⟩ := h_43.ar (x := (63, 2163, 2, 120)) ⟨by decide +kernel, by decide, by decide, by decide⟩ (by decide) (by decide) (by decide) (by decide) f_44
  refine ⟨o_44, fun H_44 u_44 => ?_⟩
  have h_44 := p_44 _ u_44
  clear p_44 o_44
  refine wpt_X12_init_365 ?_; unfold wp_X12_init_365
  refine ⟨by decide, by decide, by show 120 + 1 ≤ k_44; omega, 1164, by decide, by decide, by decide, fun q_45 e_45 G_45 f_45 k_45 g_45 => ?_⟩
  have z_45 := h_44.2.2.1 (64, 1164, 0, 120) List.mem_cons_self
  have z_45 : zcn H_44 1164 = 0 := z_45
  rw [z_45] at e_45
  subst e_45
  have hk_45 : 32138 ≤ k_45 := by rw [g_45]; show _ ≤ k_44 - (120 + 1); omega
  clear g_45
  obtain ⟨o_45, p_45⟩ := h_44.ar (x := (64, 1164, 0, 120)) ⟨by decide +kernel, by decide, by decide, by decide⟩ (by decide) (by decide) (by decide) (by decide) f_45
  refine ⟨o_45, fun H_45 u_45 => ?_⟩
  have h_45 := p_45 _ u_45
  clear p_45 o_45
  refine ⟨by decide, by decide, by show 840 + 1 ≤ k_45; omega, 1165, by decide, by decide, by decide, fun q_46 e_46 G_46 f_46 k_46 g_46 => ?_⟩
  have z_46 := h_45.2.2.1 (65, 1165, 0, 840) List.mem_cons_self
  have z_46 : zcn H_45 1165 = 0 := z_46
  rw [z_46] at e_46
  subst e_46
  have hk_46 : 31297 ≤ k_46 := by rw [g_46]; show _ ≤ k_45 - (840 + 1); omega
  clear g_46
  obtain ⟨o_46, p_46⟩ := h_45.ar (x := (65, 1165, 0, 840)) ⟨by decide +kernel, by decide, by decide, by decide⟩ (by decide) (by decide) (by decide) (by decide) f_46
  refine ⟨o_46, fun H_46 u_46 => ?_⟩
  have h_46 := p_46 _ u_46
  clear p_46 o_46
  refine ⟨by decide, by decide, by show 150 + 1 ≤ k_46; omega, 1167, by decide, by decide, by decide, fun q_47 e_47 G_47 f_47 k_47 g_47 => ?_⟩
  have z_47 := h_46.2.2.1 (67, 1167, 0, 150) List.mem_cons_self
  have z_47 : zcn H_46 1167 = 0 := z_47
  rw [z_47] at e_47
  subst e_47
  have hk_47 : 31146 ≤ k_47 := by rw [g_47]; show _ ≤ k_46 - (150 + 1); omega
  clear g_47
  obtain ⟨o_47, p_47⟩ := h_46.ar (x := (67, 1167, 0, 150)) ⟨by decide +kernel, by decide, by decide, by decide⟩ (by decide) (by decide) (by decide) (by decide) f_47
  refine ⟨o_47, fun H_47 u_47 => ?_⟩
  have h_47 := p_47 _ u_47
  clear p_47 o_47
  refine ⟨by decide, by decide, by show 150 + 1 ≤ k_47; omega, 1168, by decide, by decide, by decide, fun q_48 e_48 G_48 f_48 k_48 g_48 => ?_⟩
  have z_48 := h_47.2.2.1 (68, 1168, 0, 150) List.mem_cons_self
  have z_48 : zcn H_47 1168 = 0 := z_48
  rw [z_48] at e_48
  subst e_48
  have hk_48 : 30995 ≤ k_48 := by rw [g_48]; show _ ≤ k_47 - (150 + 1); omega
  clear g_48
  obtain ⟨o_48, p_48⟩ := h_47.ar (x := (68, 1168, 0, 150)) ⟨by decide +kernel, by decide, by decide, by decide⟩ (by decide) (by decide) (by decide) (by decide) f_48
  refine ⟨o_48, fun H_48 u_48 => ?_⟩
  have h_48 := p_48 _ u_48
  clear p_48 o_48
  refine ⟨by decide, by decide, by show 150 + 1 ≤ k_48; omega, 1169, by decide, by decide, by decide, fun q_49 e_49 G_49 f_49 k_49 g_49 => ?_⟩
  have z_49 := h_48.2.2.1 (69, 1169, 0, 150) List.mem_cons_self
  have z_49 : zcn H_48 1169 = 0 := z_49
  rw [z_49] at e_49
  subst e_49
  have hk_49 : 30844 ≤ k_49 := by rw [g_49]; show _ ≤ k_48 - (150 + 1); omega
  clear g_49
  obtain ⟨o_49, p_49⟩ := h_48.ar (x := (69, 1169, 0, 150)) ⟨by decide +kernel, by decide, by decide, by decide⟩ (by decide) (by decide) (by decide) (by decide) f_49
  refine ⟨o_49, fun H_49 u_49 => ?_⟩
  have h_49 := p_49 _ u_49
  clear p_49 o_49
  refine ⟨by decide, by decide, by show 150 + 1 ≤ k_49; omega, 1170, by decide, by decide, by decide, fun q_50 e_50 G_50 f_50 k_50 g_50 => ?_⟩
  have z_50 := h_49.2.2.1 (70, 1170, 0, 150) List.mem_cons_self
  have z_50 : zcn H_49 1170 = 0 := z_50
  rw [z_50] at e_50
  subst e_50
  have hk_50 : 30693 ≤ k_50 := by rw [g_50]; show _ ≤ k_49 - (150 + 1); omega
  clear g_50
  obtain ⟨o_50, p_50⟩ := h_49.ar (x := (70, 1170, 0, 150)) ⟨by decide +kernel, by decide, by decide, by decide⟩ (by decide) (by decide) (by decide) (by decide) f_50
  refine ⟨o_50, fun H_50 u_50 => ?_⟩
  have h_50 := p_50 _ u_50
  clear p_50 o_50
  refine ⟨by decide, by decide, by show 120 + 1 ≤ k_50; omega, 1177, by decide, by decide, by decide, fun q_51 e_51 G_51 f_51 k_51 g_51 => ?_⟩
  have z_51 := h_50.2.2.1 (77, 1177, 0, 120) List.mem_cons_self
  have z_51 : zcn H_50 1177 = 0 := z_51
  rw [z_51] at e_51
  subst e_51
  have hk_51 : 30572 ≤ k_51 := by rw [g_51]; show _ ≤ k_50 - (120 + 1); omega
  clear g_51
  obtain ⟨o_51, p_51⟩ := h_50.ar (x := (77, 1177, 0, 120)) ⟨by decide +kernel, by decide, by decide, by decide⟩ (by decide) (by decide) (by decide) (by decide) f_51
  refine ⟨o_51, fun H_51 u_51 => ?_⟩
  have h_51 := p_51 _ u_51
  clear p_51 o_51
  refine ⟨by decide, by decide, by show 840 + 1 ≤ k_51; omega, 1179, by decide, by decide, by decide, fun q_52 e_52 G_52 f_52 k_52 g_52 => ?_⟩
  have z_52 := h_51.2.2.1 (79, 1179, 0, 840) List.mem_cons_self
  have z_52 : zcn H_51 1179 = 0 := z_52
  rw [z_52] at e_52
  subst e_52
  have hk_52 : 29731 ≤ k_52 := by rw [g_52]; show _ ≤ k_51 - (840 + 1); omega
  clear g_52
  obtain ⟨o_52, p_52⟩ := h_51.ar (x := (79, 1179, 0, 840)) ⟨by decide +kernel, by decide, by decide, by decide⟩ (by decide) (by decide) (by decide) (by decide) f_52
  refine ⟨o_52, fun H_52 u_52 => ?_⟩
  have h_52 := p_52 _ u_52
  clear p_52 o_52
  refine ⟨by decide, by decide, by show 150 + 1 ≤ k_52; omega, 1180, by decide, by decide, by decide, fun q_53 e_53 G_53 f_53 k_53 g_53 => ?_⟩
  have z_53 := h_52.2.2.1 (80, 1180, 0, 150) List.mem_cons_self
  have z_53 : zcn H_52 1180 = 0 := z_53
  rw [z_53] at e_53
  subst e_53
  have hk_53 : 29580 ≤ k_53 := by rw [g_53]; show _ ≤ k_52 - (150 + 1); omega
  clear g_53
  obtain ⟨o_53, p_53⟩ := h_52.ar (x := (80, 1180, 0, 150)) ⟨by decide +kernel, by decide, by decide, by decide⟩ (by decide) (by decide) (by decide) (by decide) f_53
  refine ⟨o_53, fun H_53 u_53 => ?_⟩
  have h_53 := p_53 _ u_53
  clear p_53 o_53
  refine ⟨by decide, by decide, by show 120 + 1 ≤ k_53; omega, 1181, by decide, by decide, by decide, fun q_54 e_54 G_54 f_54 k_54 g_54 => ?_⟩
  have z_54 := h_53.2.2.1 (81, 1181, 0, 120) List.mem_cons_self
  have z_54 : zcn H_53 1181 = 0 := z_54
  rw [z_54] at e_54
  subst e_54
  have hk_54 : 29459 ≤ k_54 := by rw [g_54]; show _ ≤ k_53 - (120 + 1); omega
  clear g_54
  obtain ⟨o_54, p_54⟩ := h_53.ar (x := (81, 1181, 0, 120)) ⟨by decide +kernel, by decide, by decide, by decide⟩ (by decide) (by decide) (by decide) (by decide) f_54
  refine ⟨o_54, fun H_54 u_54 => ?_⟩
  have h_54 := p_54 _ u_54
  clear p_54 o_54
  refine ⟨by decide, by decide, by show 120 + 1 ≤ k_54; omega, 1182, by decide, by decide, by decide, fun q_55 e_55 G_55 f_55 k_55 g_55 => ?_⟩
  have z_55 := h_54.2.2.1 (82, 1182, 0, 120) List.mem_cons_self
  have z_55 : zcn H_54 1182 = 0 := z_55
  rw [z_55] at e_55
  subst e_55
  have hk_55 : 29338 ≤ k_55 := by rw [g_55]; show _ ≤ k_54 - (120 + 1); omega
  clear g_55
  obtain ⟨o_55, p_55⟩ := h_54.ar (x := (82, 1182, 0, 120)) ⟨by decide +kernel, by decide, by decide, by decide⟩ (by decide) (by decide) (by decide) (by decide) f_55
  refine ⟨o_55, fun H_55 u_55 => ?_⟩
  have h_55 := p_55 _ u_55
  clear p_55 o_55
  rw [← hQ]
  exact ⟨rfl, h_55⟩
end ZInitM
