/-! the law's methods that catch -/
/-- where the law keeps an answer -/
abbrev zout : Nat := zp 2560 0
theorem cst_xIO : Cond.castable xIO xIO ∈ zcast := zh_4 4 (by decide +kernel) rfl
theorem cst_xIA : Cond.castable xIA xIA ∈ zcast := zh_2 172 (by decide +kernel) rfl
theorem cst_xIS : Cond.castable xIS xIS ∈ zcast := zh_5 36 (by decide +kernel) rfl
theorem cst_xUO : Cond.castable xUO xUO ∈ zcast := zh_3 113 (by decide +kernel) rfl
theorem cst_xNS : Cond.castable xNS xNS ∈ zcast := zh_4 156 (by decide +kernel) rfl
section ZWrap
variable {E : ZE} {l : Launch} {d b : Nat} {G : ZG} {Q Qz : ZQ}
theorem hL_law : zcH [(0, 9, 12, 13), (0, 9, 15, 15)] mL_law 3 := ⟨List.forall_mem_cons.mpr ⟨zg_2 139 (by decide +kernel) rfl, List.forall_mem_cons.mpr ⟨zg_1 0 (by decide +kernel) rfl, List.forall_mem_cons.mpr ⟨zg_2 140 (by decide +kernel) rfl, fun _ h => nomatch h⟩⟩⟩, ⟨by decide +kernel, by decide +kernel, by decide +kernel⟩, by decide⟩
theorem w_law {x1 : Int32} (hm : zMet E l mX11_law d b [.ref (zp 384 0), .int x1] G Qz) (ho : zob G (zp 384 0) 12) (hr : ∀ r G', Qz (.inl r) G' → ∃ y, r = some (.int y) ∧ zar G' zout 3 ∧ zln G' zout = 1 ∧ Q (.inl (some (.int 0))) (zsi G' zout 0 y)) (hX : ∀ X G', Qz (.inr X) G' → (X = xIA ∧ Q (.inl (some (.int 1))) G') ∨ (X = xUO ∧ Q (.inl (some (.int 2))) G')) : zMetH [(0, 9, 12, 13), (0, 9, 15, 15)] E l mL_law (d + 1) b [.ref (zp 384 0), .int x1, .ref zout] G Q := by
  refine h_meth (by decide) (Nat.le_of_ble_eq_true rfl) (by simp [Value.category]) ?_
  refine h_aload_n (j := 2) (pc' := 1) dL_law_0 rfl rfl ?_
  refine h_iconst (x := 0) (pc' := 2) dL_law_1 rfl rfl ?_
  refine h_aload_n (j := 0) (pc' := 3) dL_law_2 rfl rfl ?_
  refine h_iload_n (j := 1) (pc' := 4) dL_law_3 rfl rfl ?_
  refine h_callV (Y := mX11_law) (n := 1) (as := [.int x1]) (st := [.int 0, .ref zout]) (pc' := 7) (ci := 12) (q := zp 384 0) hm dL_law_4 kL_7 vX11_law rfl rfl (by decide) rfl ho (Nat.le_refl _) (Nat.le_refl _) (Nat.le_of_ble_eq_true rfl) (fun r G2 hz => ?_) (fun X G2 hz => ?_)
  · obtain ⟨y, rfl, ha, hn, hq⟩ := hr r G2 hz
    refine h_i2l (pc' := 8) dL_law_7 rfl ?_
    refine h_last (pc' := 9) dL_law_8 rfl ha (by rw [hn]; exact n_in (i := 0) (by omega) (by omega)) ?_
    refine h_goto (pc' := 18) dL_law_9 (by decide) ?_
    refine h_iconst (x := 0) (pc' := 19) dL_law_18 rfl rfl ?_
    exact h_iret dL_law_19 rfl hq
  · rcases hX X G2 hz with ⟨rfl, hq⟩ | ⟨rfl, hq⟩
    · refine ⟨12, 3, 1, ⟨[], ⟨0, 9, 12, 13⟩, _, rfl, (fun z hz => nomatch hz), rfl, by decide, ⟨_, kL_13, cst_xIA⟩, rfl⟩, by decide, Or.inl ⟨3, rfl, rfl, dL_law_12⟩, ?_⟩
      refine h_iconst (x := 1) (pc' := 14) dL_law_13 rfl rfl ?_
      exact h_iret dL_law_14 rfl hq
    · refine ⟨15, 3, 1, ⟨[⟨0, 9, 12, 13⟩], ⟨0, 9, 15, 15⟩, _, rfl, (List.forall_mem_cons.mpr ⟨Or.inr ⟨by decide, _, kL_13, by simp [zncs]⟩, fun _ h => nomatch h⟩), rfl, by decide, ⟨_, kL_15, cst_xUO⟩, rfl⟩, by decide, Or.inl ⟨3, rfl, rfl, dL_law_15⟩, ?_⟩
      refine h_iconst (x := 2) (pc' := 17) dL_law_16 rfl rfl ?_
      exact h_iret dL_law_17 rfl hq
theorem hL_person : zcH [(0, 20, 23, 13), (0, 20, 27, 15)] mL_person 9 := ⟨List.forall_mem_cons.mpr ⟨zg_3 188 (by decide +kernel) rfl, List.forall_mem_cons.mpr ⟨zg_1 0 (by decide +kernel) rfl, List.forall_mem_cons.mpr ⟨zg_3 189 (by decide +kernel) rfl, fun _ h => nomatch h⟩⟩⟩, ⟨by decide +kernel, by decide +kernel, by decide +kernel⟩, by decide⟩
theorem w_person {x1 x2 x3 x4 x5 x6 x7 : Int32} (hm : zMet E l mX11_person d b [.ref (zp 384 0), .int x1, .int x2, .int x3, .int x4, .int x5, .int x6, .int x7] G Qz) (ho : zob G (zp 384 0) 12) (hr : ∀ r G', Qz (.inl r) G' → ∃ y, r = some (.int y) ∧ zar G' zout 3 ∧ zln G' zout = 1 ∧ Q (.inl (some (.int 0))) (zsi G' zout 0 y)) (hX : ∀ X G', Qz (.inr X) G' → (X = xIA ∧ Q (.inl (some (.int 1))) G') ∨ (X = xUO ∧ Q (.inl (some (.int 2))) G')) : zMetH [(0, 20, 23, 13), (0, 20, 27, 15)] E l mL_person (d + 1) b [.ref (zp 384 0), .int x1, .int x2, .int x3, .int x4, .int x5, .int x6, .int x7, .ref zout] G Q := by
  refine h_meth (by decide) (Nat.le_of_ble_eq_true rfl) (by simp [Value.category]) ?_
  refine h_aload (pc' := 2) dL_person_0 rfl rfl ?_
  refine h_iconst (x := 0) (pc' := 3) dL_person_2 rfl rfl ?_
  refine h_aload_n (j := 0) (pc' := 4) dL_person_3 rfl rfl ?_
  refine h_iload_n (j := 1) (pc' := 5) dL_person_4 rfl rfl ?_
  refine h_iload_n (j := 2) (pc' := 6) dL_person_5 rfl rfl ?_
  refine h_iload_n (j := 3) (pc' := 7) dL_person_6 rfl rfl ?_
  refine h_iload (pc' := 9) dL_person_7 rfl rfl ?_
  refine h_iload (pc' := 11) dL_person_9 rfl rfl ?_
  refine h_iload (pc' := 13) dL_person_11 rfl rfl ?_
  refine h_iload (pc' := 15) dL_person_13 rfl rfl ?_
  refine h_callV (Y := mX11_person) (n := 7) (as := [.int x1, .int x2, .int x3, .int x4, .int x5, .int x6, .int x7]) (st := [.int 0, .ref zout]) (pc' := 18) (ci := 12) (q := zp 384 0) hm dL_person_15 kL_17 vX11_person rfl rfl (by decide) rfl ho (Nat.le_refl _) (Nat.le_refl _) (Nat.le_of_ble_eq_true rfl) (fun r G2 hz => ?_) (fun X G2 hz => ?_)
  · obtain ⟨y, rfl, ha, hn, hq⟩ := hr r G2 hz
    refine h_i2l (pc' := 19) dL_person_18 rfl ?_
    refine h_last (pc' := 20) dL_person_19 rfl ha (by rw [hn]; exact n_in (i := 0) (by omega) (by omega)) ?_
    refine h_goto (pc' := 31) dL_person_20 (by decide) ?_
    refine h_iconst (x := 0) (pc' := 32) dL_person_31 rfl rfl ?_
    exact h_iret dL_person_32 rfl hq
  · rcases hX X G2 hz with ⟨rfl, hq⟩ | ⟨rfl, hq⟩
    · refine ⟨23, 9, 2, ⟨[], ⟨0, 20, 23, 13⟩, _, rfl, (fun z hz => nomatch hz), rfl, by decide, ⟨_, kL_13, cst_xIA⟩, rfl⟩, by decide, Or.inr ⟨rfl, dL_person_23⟩, ?_⟩
      refine h_iconst (x := 1) (pc' := 26) dL_person_25 rfl rfl ?_
      exact h_iret dL_person_26 rfl hq
    · refine ⟨27, 9, 2, ⟨[⟨0, 20, 23, 13⟩], ⟨0, 20, 27, 15⟩, _, rfl, (List.forall_mem_cons.mpr ⟨Or.inr ⟨by decide, _, kL_13, by simp [zncs]⟩, fun _ h => nomatch h⟩), rfl, by decide, ⟨_, kL_15, cst_xUO⟩, rfl⟩, by decide, Or.inr ⟨rfl, dL_person_27⟩, ?_⟩
      refine h_iconst (x := 2) (pc' := 30) dL_person_29 rfl rfl ?_
      exact h_iret dL_person_30 rfl hq
theorem hL_name : zcH [(0, 9, 12, 24), (0, 9, 15, 13)] mL_name 3 := ⟨List.forall_mem_cons.mpr ⟨zg_3 231 (by decide +kernel) rfl, List.forall_mem_cons.mpr ⟨zg_1 0 (by decide +kernel) rfl, List.forall_mem_cons.mpr ⟨zg_3 232 (by decide +kernel) rfl, fun _ h => nomatch h⟩⟩⟩, ⟨by decide +kernel, by decide +kernel, by decide +kernel⟩, by decide⟩
theorem w_name {x1 : Int32} (hm : zMet E l mX11_name d b [.ref (zp 384 0), .int x1] G Qz) (ho : zob G (zp 384 0) 12) (hr : ∀ r G', Qz (.inl r) G' → ∃ y, r = some (.int y) ∧ zar G' zout 3 ∧ zln G' zout = 1 ∧ Q (.inl (some (.int 0))) (zsi G' zout 0 y)) (hX : ∀ X G', Qz (.inr X) G' → (X = xIO ∧ Q (.inl (some (.int 1))) G') ∨ (X = xIA ∧ Q (.inl (some (.int 2))) G')) : zMetH [(0, 9, 12, 24), (0, 9, 15, 13)] E l mL_name (d + 1) b [.ref (zp 384 0), .int x1, .ref zout] G Q := by
  refine h_meth (by decide) (Nat.le_of_ble_eq_true rfl) (by simp [Value.category]) ?_
  refine h_aload_n (j := 2) (pc' := 1) dL_name_0 rfl rfl ?_
  refine h_iconst (x := 0) (pc' := 2) dL_name_1 rfl rfl ?_
  refine h_aload_n (j := 0) (pc' := 3) dL_name_2 rfl rfl ?_
  refine h_iload_n (j := 1) (pc' := 4) dL_name_3 rfl rfl ?_
  refine h_callV (Y := mX11_name) (n := 1) (as := [.int x1]) (st := [.int 0, .ref zout]) (pc' := 7) (ci := 12) (q := zp 384 0) hm dL_name_4 kL_21 vX11_name rfl rfl (by decide) rfl ho (Nat.le_refl _) (Nat.le_refl _) (Nat.le_of_ble_eq_true rfl) (fun r G2 hz => ?_) (fun X G2 hz => ?_)
  · obtain ⟨y, rfl, ha, hn, hq⟩ := hr r G2 hz
    refine h_i2l (pc' := 8) dL_name_7 rfl ?_
    refine h_last (pc' := 9) dL_name_8 rfl ha (by rw [hn]; exact n_in (i := 0) (by omega) (by omega)) ?_
    refine h_goto (pc' := 18) dL_name_9 (by decide) ?_
    refine h_iconst (x := 0) (pc' := 19) dL_name_18 rfl rfl ?_
    exact h_iret dL_name_19 rfl hq
  · rcases hX X G2 hz with ⟨rfl, hq⟩ | ⟨rfl, hq⟩
    · refine ⟨12, 3, 1, ⟨[], ⟨0, 9, 12, 24⟩, _, rfl, (fun z hz => nomatch hz), rfl, by decide, ⟨_, kL_24, cst_xIO⟩, rfl⟩, by decide, Or.inl ⟨3, rfl, rfl, dL_name_12⟩, ?_⟩
      refine h_iconst (x := 1) (pc' := 14) dL_name_13 rfl rfl ?_
      exact h_iret dL_name_14 rfl hq
    · refine ⟨15, 3, 1, ⟨[⟨0, 9, 12, 24⟩], ⟨0, 9, 15, 13⟩, _, rfl, (List.forall_mem_cons.mpr ⟨Or.inr ⟨by decide, _, kL_24, by simp [zncs]⟩, fun _ h => nomatch h⟩), rfl, by decide, ⟨_, kL_13, cst_xIA⟩, rfl⟩, by decide, Or.inl ⟨3, rfl, rfl, dL_name_15⟩, ?_⟩
      refine h_iconst (x := 2) (pc' := 17) dL_name_16 rfl rfl ?_
      exact h_iret dL_name_17 rfl hq
theorem hL_sign : zcH [(0, 10, 13, 24)] mL_sign 4 := ⟨List.forall_mem_cons.mpr ⟨zg_4 62 (by decide +kernel) rfl, List.forall_mem_cons.mpr ⟨zg_1 0 (by decide +kernel) rfl, List.forall_mem_cons.mpr ⟨zg_4 63 (by decide +kernel) rfl, fun _ h => nomatch h⟩⟩⟩, ⟨by decide +kernel, by decide +kernel, by decide +kernel⟩, by decide⟩
theorem w_sign {x1 x2 : Int32} (hm : zMet E l mX11_sign d b [.ref (zp 384 0), .int x1, .int x2] G Qz) (ho : zob G (zp 384 0) 12) (hr : ∀ r G', Qz (.inl r) G' → ∃ y, r = some (.int y) ∧ zar G' zout 3 ∧ zln G' zout = 1 ∧ Q (.inl (some (.int 0))) (zsi G' zout 0 y)) (hX : ∀ X G', Qz (.inr X) G' → (X = xIO ∧ Q (.inl (some (.int 1))) G')) : zMetH [(0, 10, 13, 24)] E l mL_sign (d + 1) b [.ref (zp 384 0), .int x1, .int x2, .ref zout] G Q := by
  refine h_meth (by decide) (Nat.le_of_ble_eq_true rfl) (by simp [Value.category]) ?_
  refine h_aload_n (j := 3) (pc' := 1) dL_sign_0 rfl rfl ?_
  refine h_iconst (x := 0) (pc' := 2) dL_sign_1 rfl rfl ?_
  refine h_aload_n (j := 0) (pc' := 3) dL_sign_2 rfl rfl ?_
  refine h_iload_n (j := 1) (pc' := 4) dL_sign_3 rfl rfl ?_
  refine h_iload_n (j := 2) (pc' := 5) dL_sign_4 rfl rfl ?_
  refine h_callV (Y := mX11_sign) (n := 2) (as := [.int x1, .int x2]) (st := [.int 0, .ref zout]) (pc' := 8) (ci := 12) (q := zp 384 0) hm dL_sign_5 kL_26 vX11_sign rfl rfl (by decide) rfl ho (Nat.le_refl _) (Nat.le_refl _) (Nat.le_of_ble_eq_true rfl) (fun r G2 hz => ?_) (fun X G2 hz => ?_)
  · obtain ⟨y, rfl, ha, hn, hq⟩ := hr r G2 hz
    refine h_i2l (pc' := 9) dL_sign_8 rfl ?_
    refine h_last (pc' := 10) dL_sign_9 rfl ha (by rw [hn]; exact n_in (i := 0) (by omega) (by omega)) ?_
    refine h_goto (pc' := 17) dL_sign_10 (by decide) ?_
    refine h_iconst (x := 0) (pc' := 18) dL_sign_17 rfl rfl ?_
    exact h_iret dL_sign_18 rfl hq
  · rcases hX X G2 hz with ⟨rfl, hq⟩
    · refine ⟨13, 4, 2, ⟨[], ⟨0, 10, 13, 24⟩, _, rfl, (fun z hz => nomatch hz), rfl, by decide, ⟨_, kL_24, cst_xIO⟩, rfl⟩, by decide, Or.inr ⟨rfl, dL_sign_13⟩, ?_⟩
      refine h_iconst (x := 1) (pc' := 16) dL_sign_15 rfl rfl ?_
      exact h_iret dL_sign_16 rfl hq
theorem hL_figure : zcH [(0, 9, 12, 24)] mL_figure 3 := ⟨List.forall_mem_cons.mpr ⟨zg_4 69 (by decide +kernel) rfl, List.forall_mem_cons.mpr ⟨zg_1 0 (by decide +kernel) rfl, List.forall_mem_cons.mpr ⟨zg_4 70 (by decide +kernel) rfl, fun _ h => nomatch h⟩⟩⟩, ⟨by decide +kernel, by decide +kernel, by decide +kernel⟩, by decide⟩
theorem w_figure {x1 : Int32} (hm : zMet E l mX11_figure d b [.ref (zp 384 0), .int x1] G Qz) (ho : zob G (zp 384 0) 12) (hr : ∀ r G', Qz (.inl r) G' → ∃ y, r = some (.int y) ∧ zar G' zout 3 ∧ zln G' zout = 1 ∧ Q (.inl (some (.int 0))) (zsi G' zout 0 y)) (hX : ∀ X G', Qz (.inr X) G' → (X = xIO ∧ Q (.inl (some (.int 1))) G')) : zMetH [(0, 9, 12, 24)] E l mL_figure (d + 1) b [.ref (zp 384 0), .int x1, .ref zout] G Q := by
  refine h_meth (by decide) (Nat.le_of_ble_eq_true rfl) (by simp [Value.category]) ?_
  refine h_aload_n (j := 2) (pc' := 1) dL_figure_0 rfl rfl ?_
  refine h_iconst (x := 0) (pc' := 2) dL_figure_1 rfl rfl ?_
  refine h_aload_n (j := 0) (pc' := 3) dL_figure_2 rfl rfl ?_
  refine h_iload_n (j := 1) (pc' := 4) dL_figure_3 rfl rfl ?_
  refine h_callV (Y := mX11_figure) (n := 1) (as := [.int x1]) (st := [.int 0, .ref zout]) (pc' := 7) (ci := 12) (q := zp 384 0) hm dL_figure_4 kL_30 vX11_figure rfl rfl (by decide) rfl ho (Nat.le_refl _) (Nat.le_refl _) (Nat.le_of_ble_eq_true rfl) (fun r G2 hz => ?_) (fun X G2 hz => ?_)
  · obtain ⟨y, rfl, ha, hn, hq⟩ := hr r G2 hz
    refine h_i2l (pc' := 8) dL_figure_7 rfl ?_
    refine h_last (pc' := 9) dL_figure_8 rfl ha (by rw [hn]; exact n_in (i := 0) (by omega) (by omega)) ?_
    refine h_goto (pc' := 15) dL_figure_9 (by decide) ?_
    refine h_iconst (x := 0) (pc' := 16) dL_figure_15 rfl rfl ?_
    exact h_iret dL_figure_16 rfl hq
  · rcases hX X G2 hz with ⟨rfl, hq⟩
    · refine ⟨12, 3, 1, ⟨[], ⟨0, 9, 12, 24⟩, _, rfl, (fun z hz => nomatch hz), rfl, by decide, ⟨_, kL_24, cst_xIO⟩, rfl⟩, by decide, Or.inl ⟨3, rfl, rfl, dL_figure_12⟩, ?_⟩
      refine h_iconst (x := 1) (pc' := 14) dL_figure_13 rfl rfl ?_
      exact h_iret dL_figure_14 rfl hq
theorem hL_far : zcH [(0, 10, 13, 24)] mL_far 4 := ⟨List.forall_mem_cons.mpr ⟨zg_4 82 (by decide +kernel) rfl, List.forall_mem_cons.mpr ⟨zg_1 0 (by decide +kernel) rfl, List.forall_mem_cons.mpr ⟨zg_4 83 (by decide +kernel) rfl, fun _ h => nomatch h⟩⟩⟩, ⟨by decide +kernel, by decide +kernel, by decide +kernel⟩, by decide⟩
theorem w_far {x1 x2 : Int32} (hm : zMet E l mX11_far d b [.ref (zp 384 0), .int x1, .int x2] G Qz) (ho : zob G (zp 384 0) 12) (hr : ∀ r G', Qz (.inl r) G' → ∃ y, r = some (.int y) ∧ zar G' zout 3 ∧ zln G' zout = 1 ∧ Q (.inl (some (.int 0))) (zsi G' zout 0 y)) (hX : ∀ X G', Qz (.inr X) G' → (X = xIO ∧ Q (.inl (some (.int 1))) G')) : zMetH [(0, 10, 13, 24)] E l mL_far (d + 1) b [.ref (zp 384 0), .int x1, .int x2, .ref zout] G Q := by
  refine h_meth (by decide) (Nat.le_of_ble_eq_true rfl) (by simp [Value.category]) ?_
  refine h_aload_n (j := 3) (pc' := 1) dL_far_0 rfl rfl ?_
  refine h_iconst (x := 0) (pc' := 2) dL_far_1 rfl rfl ?_
  refine h_aload_n (j := 0) (pc' := 3) dL_far_2 rfl rfl ?_
  refine h_iload_n (j := 1) (pc' := 4) dL_far_3 rfl rfl ?_
  refine h_iload_n (j := 2) (pc' := 5) dL_far_4 rfl rfl ?_
  refine h_callV (Y := mX11_far) (n := 2) (as := [.int x1, .int x2]) (st := [.int 0, .ref zout]) (pc' := 8) (ci := 12) (q := zp 384 0) hm dL_far_5 kL_33 vX11_far rfl rfl (by decide) rfl ho (Nat.le_refl _) (Nat.le_refl _) (Nat.le_of_ble_eq_true rfl) (fun r G2 hz => ?_) (fun X G2 hz => ?_)
  · obtain ⟨y, rfl, ha, hn, hq⟩ := hr r G2 hz
    refine h_i2l (pc' := 9) dL_far_8 rfl ?_
    refine h_last (pc' := 10) dL_far_9 rfl ha (by rw [hn]; exact n_in (i := 0) (by omega) (by omega)) ?_
    refine h_goto (pc' := 17) dL_far_10 (by decide) ?_
    refine h_iconst (x := 0) (pc' := 18) dL_far_17 rfl rfl ?_
    exact h_iret dL_far_18 rfl hq
  · rcases hX X G2 hz with ⟨rfl, hq⟩
    · refine ⟨13, 4, 2, ⟨[], ⟨0, 10, 13, 24⟩, _, rfl, (fun z hz => nomatch hz), rfl, by decide, ⟨_, kL_24, cst_xIO⟩, rfl⟩, by decide, Or.inr ⟨rfl, dL_far_13⟩, ?_⟩
      refine h_iconst (x := 1) (pc' := 16) dL_far_15 rfl rfl ?_
      exact h_iret dL_far_16 rfl hq
theorem hL_tell : zcH [(0, 12, 15, 24), (0, 12, 19, 13)] mL_tell 5 := ⟨List.forall_mem_cons.mpr ⟨zg_4 93 (by decide +kernel) rfl, List.forall_mem_cons.mpr ⟨zg_1 0 (by decide +kernel) rfl, List.forall_mem_cons.mpr ⟨zg_4 94 (by decide +kernel) rfl, fun _ h => nomatch h⟩⟩⟩, ⟨by decide +kernel, by decide +kernel, by decide +kernel⟩, by decide⟩
theorem w_tell {x1 x2 x3 : Int32} (hm : zMet E l mX11_tell d b [.ref (zp 384 0), .int x1, .int x2, .int x3] G Qz) (ho : zob G (zp 384 0) 12) (hr : ∀ r G', Qz (.inl r) G' → ∃ y, r = some (.int y) ∧ zar G' zout 3 ∧ zln G' zout = 1 ∧ Q (.inl (some (.int 0))) (zsi G' zout 0 y)) (hX : ∀ X G', Qz (.inr X) G' → (X = xIO ∧ Q (.inl (some (.int 1))) G') ∨ (X = xIA ∧ Q (.inl (some (.int 2))) G')) : zMetH [(0, 12, 15, 24), (0, 12, 19, 13)] E l mL_tell (d + 1) b [.ref (zp 384 0), .int x1, .int x2, .int x3, .ref zout] G Q := by
  refine h_meth (by decide) (Nat.le_of_ble_eq_true rfl) (by simp [Value.category]) ?_
  refine h_aload (pc' := 2) dL_tell_0 rfl rfl ?_
  refine h_iconst (x := 0) (pc' := 3) dL_tell_2 rfl rfl ?_
  refine h_aload_n (j := 0) (pc' := 4) dL_tell_3 rfl rfl ?_
  refine h_iload_n (j := 1) (pc' := 5) dL_tell_4 rfl rfl ?_
  refine h_iload_n (j := 2) (pc' := 6) dL_tell_5 rfl rfl ?_
  refine h_iload_n (j := 3) (pc' := 7) dL_tell_6 rfl rfl ?_
  refine h_callV (Y := mX11_tell) (n := 3) (as := [.int x1, .int x2, .int x3]) (st := [.int 0, .ref zout]) (pc' := 10) (ci := 12) (q := zp 384 0) hm dL_tell_7 kL_36 vX11_tell rfl rfl (by decide) rfl ho (Nat.le_refl _) (Nat.le_refl _) (Nat.le_of_ble_eq_true rfl) (fun r G2 hz => ?_) (fun X G2 hz => ?_)
  · obtain ⟨y, rfl, ha, hn, hq⟩ := hr r G2 hz
    refine h_i2l (pc' := 11) dL_tell_10 rfl ?_
    refine h_last (pc' := 12) dL_tell_11 rfl ha (by rw [hn]; exact n_in (i := 0) (by omega) (by omega)) ?_
    refine h_goto (pc' := 23) dL_tell_12 (by decide) ?_
    refine h_iconst (x := 0) (pc' := 24) dL_tell_23 rfl rfl ?_
    exact h_iret dL_tell_24 rfl hq
  · rcases hX X G2 hz with ⟨rfl, hq⟩ | ⟨rfl, hq⟩
    · refine ⟨15, 5, 2, ⟨[], ⟨0, 12, 15, 24⟩, _, rfl, (fun z hz => nomatch hz), rfl, by decide, ⟨_, kL_24, cst_xIO⟩, rfl⟩, by decide, Or.inr ⟨rfl, dL_tell_15⟩, ?_⟩
      refine h_iconst (x := 1) (pc' := 18) dL_tell_17 rfl rfl ?_
      exact h_iret dL_tell_18 rfl hq
    · refine ⟨19, 5, 2, ⟨[⟨0, 12, 15, 24⟩], ⟨0, 12, 19, 13⟩, _, rfl, (List.forall_mem_cons.mpr ⟨Or.inr ⟨by decide, _, kL_24, by simp [zncs]⟩, fun _ h => nomatch h⟩), rfl, by decide, ⟨_, kL_13, cst_xIA⟩, rfl⟩, by decide, Or.inr ⟨rfl, dL_tell_19⟩, ?_⟩
      refine h_iconst (x := 2) (pc' := 22) dL_tell_21 rfl rfl ?_
      exact h_iret dL_tell_22 rfl hq
theorem hL_judge : zcH [(0, 16, 19, 24), (0, 16, 23, 13), (0, 16, 27, 44)] mL_judge 7 := ⟨List.forall_mem_cons.mpr ⟨zg_4 124 (by decide +kernel) rfl, List.forall_mem_cons.mpr ⟨zg_1 0 (by decide +kernel) rfl, List.forall_mem_cons.mpr ⟨zg_4 125 (by decide +kernel) rfl, fun _ h => nomatch h⟩⟩⟩, ⟨by decide +kernel, by decide +kernel, by decide +kernel⟩, by decide⟩
theorem w_judge {x1 x2 x3 x4 x5 : Int32} (hm : zMet E l mX11_judge d b [.ref (zp 384 0), .int x1, .int x2, .int x3, .int x4, .int x5] G Qz) (ho : zob G (zp 384 0) 12) (hr : ∀ r G', Qz (.inl r) G' → ∃ y, r = some (.int y) ∧ zar G' zout 3 ∧ zln G' zout = 1 ∧ Q (.inl (some (.int 0))) (zsi G' zout 0 y)) (hX : ∀ X G', Qz (.inr X) G' → (X = xIO ∧ Q (.inl (some (.int 1))) G') ∨ (X = xIA ∧ Q (.inl (some (.int 2))) G') ∨ (X = xNS ∧ Q (.inl (some (.int 3))) G')) : zMetH [(0, 16, 19, 24), (0, 16, 23, 13), (0, 16, 27, 44)] E l mL_judge (d + 1) b [.ref (zp 384 0), .int x1, .int x2, .int x3, .int x4, .int x5, .ref zout] G Q := by
  refine h_meth (by decide) (Nat.le_of_ble_eq_true rfl) (by simp [Value.category]) ?_
  refine h_aload (pc' := 2) dL_judge_0 rfl rfl ?_
  refine h_iconst (x := 0) (pc' := 3) dL_judge_2 rfl rfl ?_
  refine h_aload_n (j := 0) (pc' := 4) dL_judge_3 rfl rfl ?_
  refine h_iload_n (j := 1) (pc' := 5) dL_judge_4 rfl rfl ?_
  refine h_iload_n (j := 2) (pc' := 6) dL_judge_5 rfl rfl ?_
  refine h_iload_n (j := 3) (pc' := 7) dL_judge_6 rfl rfl ?_
  refine h_iload (pc' := 9) dL_judge_7 rfl rfl ?_
  refine h_iload (pc' := 11) dL_judge_9 rfl rfl ?_
  refine h_callV (Y := mX11_judge) (n := 5) (as := [.int x1, .int x2, .int x3, .int x4, .int x5]) (st := [.int 0, .ref zout]) (pc' := 14) (ci := 12) (q := zp 384 0) hm dL_judge_11 kL_40 vX11_judge rfl rfl (by decide) rfl ho (Nat.le_refl _) (Nat.le_refl _) (Nat.le_of_ble_eq_true rfl) (fun r G2 hz => ?_) (fun X G2 hz => ?_)
  · obtain ⟨y, rfl, ha, hn, hq⟩ := hr r G2 hz
    refine h_i2l (pc' := 15) dL_judge_14 rfl ?_
    refine h_last (pc' := 16) dL_judge_15 rfl ha (by rw [hn]; exact n_in (i := 0) (by omega) (by omega)) ?_
    refine h_goto (pc' := 31) dL_judge_16 (by decide) ?_
    refine h_iconst (x := 0) (pc' := 32) dL_judge_31 rfl rfl ?_
    exact h_iret dL_judge_32 rfl hq
  · rcases hX X G2 hz with ⟨rfl, hq⟩ | ⟨rfl, hq⟩ | ⟨rfl, hq⟩
    · refine ⟨19, 7, 2, ⟨[], ⟨0, 16, 19, 24⟩, _, rfl, (fun z hz => nomatch hz), rfl, by decide, ⟨_, kL_24, cst_xIO⟩, rfl⟩, by decide, Or.inr ⟨rfl, dL_judge_19⟩, ?_⟩
      refine h_iconst (x := 1) (pc' := 22) dL_judge_21 rfl rfl ?_
      exact h_iret dL_judge_22 rfl hq
    · refine ⟨23, 7, 2, ⟨[⟨0, 16, 19, 24⟩], ⟨0, 16, 23, 13⟩, _, rfl, (List.forall_mem_cons.mpr ⟨Or.inr ⟨by decide, _, kL_24, by simp [zncs]⟩, fun _ h => nomatch h⟩), rfl, by decide, ⟨_, kL_13, cst_xIA⟩, rfl⟩, by decide, Or.inr ⟨rfl, dL_judge_23⟩, ?_⟩
      refine h_iconst (x := 2) (pc' := 26) dL_judge_25 rfl rfl ?_
      exact h_iret dL_judge_26 rfl hq
    · refine ⟨27, 7, 2, ⟨[⟨0, 16, 19, 24⟩, ⟨0, 16, 23, 13⟩], ⟨0, 16, 27, 44⟩, _, rfl, (List.forall_mem_cons.mpr ⟨Or.inr ⟨by decide, _, kL_24, by simp [zncs]⟩, List.forall_mem_cons.mpr ⟨Or.inr ⟨by decide, _, kL_13, by simp [zncs]⟩, fun _ h => nomatch h⟩⟩), rfl, by decide, ⟨_, kL_44, cst_xNS⟩, rfl⟩, by decide, Or.inr ⟨rfl, dL_judge_27⟩, ?_⟩
      refine h_iconst (x := 3) (pc' := 30) dL_judge_29 rfl rfl ?_
      exact h_iret dL_judge_30 rfl hq
theorem hL_ask : zcH [(0, 16, 19, 24), (0, 16, 23, 13), (0, 16, 27, 15)] mL_ask 7 := ⟨List.forall_mem_cons.mpr ⟨zg_4 170 (by decide +kernel) rfl, List.forall_mem_cons.mpr ⟨zg_1 0 (by decide +kernel) rfl, List.forall_mem_cons.mpr ⟨zg_4 171 (by decide +kernel) rfl, fun _ h => nomatch h⟩⟩⟩, ⟨by decide +kernel, by decide +kernel, by decide +kernel⟩, by decide⟩
theorem w_ask {x1 x2 x3 x4 x5 : Int32} (hm : zMet E l mX11_ask d b [.ref (zp 384 0), .int x1, .int x2, .int x3, .int x4, .int x5] G Qz) (ho : zob G (zp 384 0) 12) (hr : ∀ r G', Qz (.inl r) G' → ∃ y, r = some (.int y) ∧ zar G' zout 3 ∧ zln G' zout = 1 ∧ Q (.inl (some (.int 0))) (zsi G' zout 0 y)) (hX : ∀ X G', Qz (.inr X) G' → (X = xIO ∧ Q (.inl (some (.int 1))) G') ∨ (X = xIA ∧ Q (.inl (some (.int 2))) G') ∨ (X = xUO ∧ Q (.inl (some (.int 3))) G')) : zMetH [(0, 16, 19, 24), (0, 16, 23, 13), (0, 16, 27, 15)] E l mL_ask (d + 1) b [.ref (zp 384 0), .int x1, .int x2, .int x3, .int x4, .int x5, .ref zout] G Q := by
  refine h_meth (by decide) (Nat.le_of_ble_eq_true rfl) (by simp [Value.category]) ?_
  refine h_aload (pc' := 2) dL_ask_0 rfl rfl ?_
  refine h_iconst (x := 0) (pc' := 3) dL_ask_2 rfl rfl ?_
  refine h_aload_n (j := 0) (pc' := 4) dL_ask_3 rfl rfl ?_
  refine h_iload_n (j := 1) (pc' := 5) dL_ask_4 rfl rfl ?_
  refine h_iload_n (j := 2) (pc' := 6) dL_ask_5 rfl rfl ?_
  refine h_iload_n (j := 3) (pc' := 7) dL_ask_6 rfl rfl ?_
  refine h_iload (pc' := 9) dL_ask_7 rfl rfl ?_
  refine h_iload (pc' := 11) dL_ask_9 rfl rfl ?_
  refine h_callV (Y := mX11_ask) (n := 5) (as := [.int x1, .int x2, .int x3, .int x4, .int x5]) (st := [.int 0, .ref zout]) (pc' := 14) (ci := 12) (q := zp 384 0) hm dL_ask_11 kL_46 vX11_ask rfl rfl (by decide) rfl ho (Nat.le_refl _) (Nat.le_refl _) (Nat.le_of_ble_eq_true rfl) (fun r G2 hz => ?_) (fun X G2 hz => ?_)
  · obtain ⟨y, rfl, ha, hn, hq⟩ := hr r G2 hz
    refine h_i2l (pc' := 15) dL_ask_14 rfl ?_
    refine h_last (pc' := 16) dL_ask_15 rfl ha (by rw [hn]; exact n_in (i := 0) (by omega) (by omega)) ?_
    refine h_goto (pc' := 31) dL_ask_16 (by decide) ?_
    refine h_iconst (x := 0) (pc' := 32) dL_ask_31 rfl rfl ?_
    exact h_iret dL_ask_32 rfl hq
  · rcases hX X G2 hz with ⟨rfl, hq⟩ | ⟨rfl, hq⟩ | ⟨rfl, hq⟩
    · refine ⟨19, 7, 2, ⟨[], ⟨0, 16, 19, 24⟩, _, rfl, (fun z hz => nomatch hz), rfl, by decide, ⟨_, kL_24, cst_xIO⟩, rfl⟩, by decide, Or.inr ⟨rfl, dL_ask_19⟩, ?_⟩
      refine h_iconst (x := 1) (pc' := 22) dL_ask_21 rfl rfl ?_
      exact h_iret dL_ask_22 rfl hq
    · refine ⟨23, 7, 2, ⟨[⟨0, 16, 19, 24⟩], ⟨0, 16, 23, 13⟩, _, rfl, (List.forall_mem_cons.mpr ⟨Or.inr ⟨by decide, _, kL_24, by simp [zncs]⟩, fun _ h => nomatch h⟩), rfl, by decide, ⟨_, kL_13, cst_xIA⟩, rfl⟩, by decide, Or.inr ⟨rfl, dL_ask_23⟩, ?_⟩
      refine h_iconst (x := 2) (pc' := 26) dL_ask_25 rfl rfl ?_
      exact h_iret dL_ask_26 rfl hq
    · refine ⟨27, 7, 2, ⟨[⟨0, 16, 19, 24⟩, ⟨0, 16, 23, 13⟩], ⟨0, 16, 27, 15⟩, _, rfl, (List.forall_mem_cons.mpr ⟨Or.inr ⟨by decide, _, kL_24, by simp [zncs]⟩, List.forall_mem_cons.mpr ⟨Or.inr ⟨by decide, _, kL_13, by simp [zncs]⟩, fun _ h => nomatch h⟩⟩), rfl, by decide, ⟨_, kL_15, cst_xUO⟩, rfl⟩, by decide, Or.inr ⟨rfl, dL_ask_27⟩, ?_⟩
      refine h_iconst (x := 3) (pc' := 30) dL_ask_29 rfl rfl ?_
      exact h_iret dL_ask_30 rfl hq
theorem hL_give : zcH [(0, 10, 13, 24), (0, 10, 17, 13), (0, 10, 21, 53)] mL_give 4 := ⟨List.forall_mem_cons.mpr ⟨zg_5 20 (by decide +kernel) rfl, List.forall_mem_cons.mpr ⟨zg_1 0 (by decide +kernel) rfl, List.forall_mem_cons.mpr ⟨zg_5 21 (by decide +kernel) rfl, fun _ h => nomatch h⟩⟩⟩, ⟨by decide +kernel, by decide +kernel, by decide +kernel⟩, by decide⟩
theorem w_give {x1 x2 : Int32} (hm : zMet E l mX11_give d b [.ref (zp 384 0), .int x1, .int x2] G Qz) (ho : zob G (zp 384 0) 12) (hr : ∀ r G', Qz (.inl r) G' → ∃ y, r = some (.int y) ∧ zar G' zout 3 ∧ zln G' zout = 1 ∧ Q (.inl (some (.int 0))) (zsi G' zout 0 y)) (hX : ∀ X G', Qz (.inr X) G' → (X = xIO ∧ Q (.inl (some (.int 1))) G') ∨ (X = xIA ∧ Q (.inl (some (.int 2))) G') ∨ (X = xIS ∧ Q (.inl (some (.int 3))) G')) : zMetH [(0, 10, 13, 24), (0, 10, 17, 13), (0, 10, 21, 53)] E l mL_give (d + 1) b [.ref (zp 384 0), .int x1, .int x2, .ref zout] G Q := by
  refine h_meth (by decide) (Nat.le_of_ble_eq_true rfl) (by simp [Value.category]) ?_
  refine h_aload_n (j := 3) (pc' := 1) dL_give_0 rfl rfl ?_
  refine h_iconst (x := 0) (pc' := 2) dL_give_1 rfl rfl ?_
  refine h_aload_n (j := 0) (pc' := 3) dL_give_2 rfl rfl ?_
  refine h_iload_n (j := 1) (pc' := 4) dL_give_3 rfl rfl ?_
  refine h_iload_n (j := 2) (pc' := 5) dL_give_4 rfl rfl ?_
  refine h_callV (Y := mX11_give) (n := 2) (as := [.int x1, .int x2]) (st := [.int 0, .ref zout]) (pc' := 8) (ci := 12) (q := zp 384 0) hm dL_give_5 kL_50 vX11_give rfl rfl (by decide) rfl ho (Nat.le_refl _) (Nat.le_refl _) (Nat.le_of_ble_eq_true rfl) (fun r G2 hz => ?_) (fun X G2 hz => ?_)
  · obtain ⟨y, rfl, ha, hn, hq⟩ := hr r G2 hz
    refine h_i2l (pc' := 9) dL_give_8 rfl ?_
    refine h_last (pc' := 10) dL_give_9 rfl ha (by rw [hn]; exact n_in (i := 0) (by omega) (by omega)) ?_
    refine h_goto (pc' := 25) dL_give_10 (by decide) ?_
    refine h_iconst (x := 0) (pc' := 26) dL_give_25 rfl rfl ?_
    exact h_iret dL_give_26 rfl hq
  · rcases hX X G2 hz with ⟨rfl, hq⟩ | ⟨rfl, hq⟩ | ⟨rfl, hq⟩
    · refine ⟨13, 4, 2, ⟨[], ⟨0, 10, 13, 24⟩, _, rfl, (fun z hz => nomatch hz), rfl, by decide, ⟨_, kL_24, cst_xIO⟩, rfl⟩, by decide, Or.inr ⟨rfl, dL_give_13⟩, ?_⟩
      refine h_iconst (x := 1) (pc' := 16) dL_give_15 rfl rfl ?_
      exact h_iret dL_give_16 rfl hq
    · refine ⟨17, 4, 2, ⟨[⟨0, 10, 13, 24⟩], ⟨0, 10, 17, 13⟩, _, rfl, (List.forall_mem_cons.mpr ⟨Or.inr ⟨by decide, _, kL_24, by simp [zncs]⟩, fun _ h => nomatch h⟩), rfl, by decide, ⟨_, kL_13, cst_xIA⟩, rfl⟩, by decide, Or.inr ⟨rfl, dL_give_17⟩, ?_⟩
      refine h_iconst (x := 2) (pc' := 20) dL_give_19 rfl rfl ?_
      exact h_iret dL_give_20 rfl hq
    · refine ⟨21, 4, 2, ⟨[⟨0, 10, 13, 24⟩, ⟨0, 10, 17, 13⟩], ⟨0, 10, 21, 53⟩, _, rfl, (List.forall_mem_cons.mpr ⟨Or.inr ⟨by decide, _, kL_24, by simp [zncs]⟩, List.forall_mem_cons.mpr ⟨Or.inr ⟨by decide, _, kL_13, by simp [zncs]⟩, fun _ h => nomatch h⟩⟩), rfl, by decide, ⟨_, kL_53, cst_xIS⟩, rfl⟩, by decide, Or.inr ⟨rfl, dL_give_21⟩, ?_⟩
      refine h_iconst (x := 3) (pc' := 24) dL_give_23 rfl rfl ?_
      exact h_iret dL_give_24 rfl hq
theorem hL_hands : zcH [(0, 6, 9, 24), (0, 6, 12, 13)] mL_hands 3 := ⟨List.forall_mem_cons.mpr ⟨zg_5 54 (by decide +kernel) rfl, List.forall_mem_cons.mpr ⟨zg_1 0 (by decide +kernel) rfl, List.forall_mem_cons.mpr ⟨zg_5 55 (by decide +kernel) rfl, fun _ h => nomatch h⟩⟩⟩, ⟨by decide +kernel, by decide +kernel, by decide +kernel⟩, by decide⟩
theorem w_hands {x1 x2 : Int32} (hm : zMet E l mX11_hands d b [.ref (zp 384 0), .int x1, .int x2] G Qz) (ho : zob G (zp 384 0) 12) (hr : ∀ r G', Qz (.inl r) G' → r = none ∧ Q (.inl (some (.int 0))) G') (hX : ∀ X G', Qz (.inr X) G' → (X = xIO ∧ Q (.inl (some (.int 1))) G') ∨ (X = xIA ∧ Q (.inl (some (.int 2))) G')) : zMetH [(0, 6, 9, 24), (0, 6, 12, 13)] E l mL_hands (d + 1) b [.ref (zp 384 0), .int x1, .int x2] G Q := by
  refine h_meth (by decide) (Nat.le_of_ble_eq_true rfl) (by simp [Value.category]) ?_
  refine h_aload_n (j := 0) (pc' := 1) dL_hands_0 rfl rfl ?_
  refine h_iload_n (j := 1) (pc' := 2) dL_hands_1 rfl rfl ?_
  refine h_iload_n (j := 2) (pc' := 3) dL_hands_2 rfl rfl ?_
  refine h_callV (Y := mX11_hands) (n := 2) (as := [.int x1, .int x2]) (st := []) (pc' := 6) (ci := 12) (q := zp 384 0) hm dL_hands_3 kL_55 vX11_hands rfl rfl (by decide) rfl ho (Nat.le_refl _) (Nat.le_refl _) (Nat.le_of_ble_eq_true rfl) (fun r G2 hz => ?_) (fun X G2 hz => ?_)
  · obtain ⟨rfl, hq⟩ := hr r G2 hz
    refine h_goto (pc' := 15) dL_hands_6 (by decide) ?_
    refine h_iconst (x := 0) (pc' := 16) dL_hands_15 rfl rfl ?_
    exact h_iret dL_hands_16 rfl hq
  · rcases hX X G2 hz with ⟨rfl, hq⟩ | ⟨rfl, hq⟩
    · refine ⟨9, 3, 1, ⟨[], ⟨0, 6, 9, 24⟩, _, rfl, (fun z hz => nomatch hz), rfl, by decide, ⟨_, kL_24, cst_xIO⟩, rfl⟩, by decide, Or.inl ⟨3, rfl, rfl, dL_hands_9⟩, ?_⟩
      refine h_iconst (x := 1) (pc' := 11) dL_hands_10 rfl rfl ?_
      exact h_iret dL_hands_11 rfl hq
    · refine ⟨12, 3, 1, ⟨[⟨0, 6, 9, 24⟩], ⟨0, 6, 12, 13⟩, _, rfl, (List.forall_mem_cons.mpr ⟨Or.inr ⟨by decide, _, kL_24, by simp [zncs]⟩, fun _ h => nomatch h⟩), rfl, by decide, ⟨_, kL_13, cst_xIA⟩, rfl⟩, by decide, Or.inl ⟨3, rfl, rfl, dL_hands_12⟩, ?_⟩
      refine h_iconst (x := 2) (pc' := 14) dL_hands_13 rfl rfl ?_
      exact h_iret dL_hands_14 rfl hq
theorem hL_lend : zcH [(0, 16, 19, 24), (0, 16, 23, 13)] mL_lend 7 := ⟨List.forall_mem_cons.mpr ⟨zg_5 68 (by decide +kernel) rfl, List.forall_mem_cons.mpr ⟨zg_1 0 (by decide +kernel) rfl, List.forall_mem_cons.mpr ⟨zg_5 69 (by decide +kernel) rfl, fun _ h => nomatch h⟩⟩⟩, ⟨by decide +kernel, by decide +kernel, by decide +kernel⟩, by decide⟩
theorem w_lend {x1 x2 x3 x4 x5 : Int32} (hm : zMet E l mX11_lend d b [.ref (zp 384 0), .int x1, .int x2, .int x3, .int x4, .int x5] G Qz) (ho : zob G (zp 384 0) 12) (hr : ∀ r G', Qz (.inl r) G' → ∃ y, r = some (.int y) ∧ zar G' zout 3 ∧ zln G' zout = 1 ∧ Q (.inl (some (.int 0))) (zsi G' zout 0 y)) (hX : ∀ X G', Qz (.inr X) G' → (X = xIO ∧ Q (.inl (some (.int 1))) G') ∨ (X = xIA ∧ Q (.inl (some (.int 2))) G')) : zMetH [(0, 16, 19, 24), (0, 16, 23, 13)] E l mL_lend (d + 1) b [.ref (zp 384 0), .int x1, .int x2, .int x3, .int x4, .int x5, .ref zout] G Q := by
  refine h_meth (by decide) (Nat.le_of_ble_eq_true rfl) (by simp [Value.category]) ?_
  refine h_aload (pc' := 2) dL_lend_0 rfl rfl ?_
  refine h_iconst (x := 0) (pc' := 3) dL_lend_2 rfl rfl ?_
  refine h_aload_n (j := 0) (pc' := 4) dL_lend_3 rfl rfl ?_
  refine h_iload_n (j := 1) (pc' := 5) dL_lend_4 rfl rfl ?_
  refine h_iload_n (j := 2) (pc' := 6) dL_lend_5 rfl rfl ?_
  refine h_iload_n (j := 3) (pc' := 7) dL_lend_6 rfl rfl ?_
  refine h_iload (pc' := 9) dL_lend_7 rfl rfl ?_
  refine h_iload (pc' := 11) dL_lend_9 rfl rfl ?_
  refine h_callV (Y := mX11_lend) (n := 5) (as := [.int x1, .int x2, .int x3, .int x4, .int x5]) (st := [.int 0, .ref zout]) (pc' := 14) (ci := 12) (q := zp 384 0) hm dL_lend_11 kL_59 vX11_lend rfl rfl (by decide) rfl ho (Nat.le_refl _) (Nat.le_refl _) (Nat.le_of_ble_eq_true rfl) (fun r G2 hz => ?_) (fun X G2 hz => ?_)
  · obtain ⟨y, rfl, ha, hn, hq⟩ := hr r G2 hz
    refine h_i2l (pc' := 15) dL_lend_14 rfl ?_
    refine h_last (pc' := 16) dL_lend_15 rfl ha (by rw [hn]; exact n_in (i := 0) (by omega) (by omega)) ?_
    refine h_goto (pc' := 27) dL_lend_16 (by decide) ?_
    refine h_iconst (x := 0) (pc' := 28) dL_lend_27 rfl rfl ?_
    exact h_iret dL_lend_28 rfl hq
  · rcases hX X G2 hz with ⟨rfl, hq⟩ | ⟨rfl, hq⟩
    · refine ⟨19, 7, 2, ⟨[], ⟨0, 16, 19, 24⟩, _, rfl, (fun z hz => nomatch hz), rfl, by decide, ⟨_, kL_24, cst_xIO⟩, rfl⟩, by decide, Or.inr ⟨rfl, dL_lend_19⟩, ?_⟩
      refine h_iconst (x := 1) (pc' := 22) dL_lend_21 rfl rfl ?_
      exact h_iret dL_lend_22 rfl hq
    · refine ⟨23, 7, 2, ⟨[⟨0, 16, 19, 24⟩], ⟨0, 16, 23, 13⟩, _, rfl, (List.forall_mem_cons.mpr ⟨Or.inr ⟨by decide, _, kL_24, by simp [zncs]⟩, fun _ h => nomatch h⟩), rfl, by decide, ⟨_, kL_13, cst_xIA⟩, rfl⟩, by decide, Or.inr ⟨rfl, dL_lend_23⟩, ?_⟩
      refine h_iconst (x := 2) (pc' := 26) dL_lend_25 rfl rfl ?_
      exact h_iret dL_lend_26 rfl hq
theorem hL_units : zcH [(0, 10, 13, 24)] mL_units 4 := ⟨List.forall_mem_cons.mpr ⟨zg_5 98 (by decide +kernel) rfl, List.forall_mem_cons.mpr ⟨zg_1 0 (by decide +kernel) rfl, List.forall_mem_cons.mpr ⟨zg_5 99 (by decide +kernel) rfl, fun _ h => nomatch h⟩⟩⟩, ⟨by decide +kernel, by decide +kernel, by decide +kernel⟩, by decide⟩
theorem w_units {x1 x2 : Int32} (hm : zMet E l mX11_units d b [.ref (zp 384 0), .int x1, .int x2] G Qz) (ho : zob G (zp 384 0) 12) (hr : ∀ r G', Qz (.inl r) G' → ∃ y, r = some (.int y) ∧ zar G' zout 3 ∧ zln G' zout = 1 ∧ Q (.inl (some (.int 0))) (zsi G' zout 0 y)) (hX : ∀ X G', Qz (.inr X) G' → (X = xIO ∧ Q (.inl (some (.int 1))) G')) : zMetH [(0, 10, 13, 24)] E l mL_units (d + 1) b [.ref (zp 384 0), .int x1, .int x2, .ref zout] G Q := by
  refine h_meth (by decide) (Nat.le_of_ble_eq_true rfl) (by simp [Value.category]) ?_
  refine h_aload_n (j := 3) (pc' := 1) dL_units_0 rfl rfl ?_
  refine h_iconst (x := 0) (pc' := 2) dL_units_1 rfl rfl ?_
  refine h_aload_n (j := 0) (pc' := 3) dL_units_2 rfl rfl ?_
  refine h_iload_n (j := 1) (pc' := 4) dL_units_3 rfl rfl ?_
  refine h_iload_n (j := 2) (pc' := 5) dL_units_4 rfl rfl ?_
  refine h_callV (Y := mX11_units) (n := 2) (as := [.int x1, .int x2]) (st := [.int 0, .ref zout]) (pc' := 8) (ci := 12) (q := zp 384 0) hm dL_units_5 kL_63 vX11_units rfl rfl (by decide) rfl ho (Nat.le_refl _) (Nat.le_refl _) (Nat.le_of_ble_eq_true rfl) (fun r G2 hz => ?_) (fun X G2 hz => ?_)
  · obtain ⟨y, rfl, ha, hn, hq⟩ := hr r G2 hz
    refine h_i2l (pc' := 9) dL_units_8 rfl ?_
    refine h_last (pc' := 10) dL_units_9 rfl ha (by rw [hn]; exact n_in (i := 0) (by omega) (by omega)) ?_
    refine h_goto (pc' := 17) dL_units_10 (by decide) ?_
    refine h_iconst (x := 0) (pc' := 18) dL_units_17 rfl rfl ?_
    exact h_iret dL_units_18 rfl hq
  · rcases hX X G2 hz with ⟨rfl, hq⟩
    · refine ⟨13, 4, 2, ⟨[], ⟨0, 10, 13, 24⟩, _, rfl, (fun z hz => nomatch hz), rfl, by decide, ⟨_, kL_24, cst_xIO⟩, rfl⟩, by decide, Or.inr ⟨rfl, dL_units_13⟩, ?_⟩
      refine h_iconst (x := 1) (pc' := 16) dL_units_15 rfl rfl ?_
      exact h_iret dL_units_16 rfl hq
theorem hL_rules : zcH [(0, 11, 14, 13)] mL_rules 6 := ⟨List.forall_mem_cons.mpr ⟨zg_5 117 (by decide +kernel) rfl, List.forall_mem_cons.mpr ⟨zg_1 0 (by decide +kernel) rfl, List.forall_mem_cons.mpr ⟨zg_5 118 (by decide +kernel) rfl, fun _ h => nomatch h⟩⟩⟩, ⟨by decide +kernel, by decide +kernel, by decide +kernel⟩, by decide⟩
theorem w_rules {x1 x2 x3 x4 x5 : Int32} (hm : zMet E l mX11_rules d b [.ref (zp 384 0), .int x1, .int x2, .int x3, .int x4, .int x5] G Qz) (ho : zob G (zp 384 0) 12) (hr : ∀ r G', Qz (.inl r) G' → r = none ∧ Q (.inl (some (.int 0))) G') (hX : ∀ X G', Qz (.inr X) G' → (X = xIA ∧ Q (.inl (some (.int 1))) G')) : zMetH [(0, 11, 14, 13)] E l mL_rules (d + 1) b [.ref (zp 384 0), .int x1, .int x2, .int x3, .int x4, .int x5] G Q := by
  refine h_meth (by decide) (Nat.le_of_ble_eq_true rfl) (by simp [Value.category]) ?_
  refine h_aload_n (j := 0) (pc' := 1) dL_rules_0 rfl rfl ?_
  refine h_iload_n (j := 1) (pc' := 2) dL_rules_1 rfl rfl ?_
  refine h_iload_n (j := 2) (pc' := 3) dL_rules_2 rfl rfl ?_
  refine h_iload_n (j := 3) (pc' := 4) dL_rules_3 rfl rfl ?_
  refine h_iload (pc' := 6) dL_rules_4 rfl rfl ?_
  refine h_iload (pc' := 8) dL_rules_6 rfl rfl ?_
  refine h_callV (Y := mX11_rules) (n := 5) (as := [.int x1, .int x2, .int x3, .int x4, .int x5]) (st := []) (pc' := 11) (ci := 12) (q := zp 384 0) hm dL_rules_8 kL_66 vX11_rules rfl rfl (by decide) rfl ho (Nat.le_refl _) (Nat.le_refl _) (Nat.le_of_ble_eq_true rfl) (fun r G2 hz => ?_) (fun X G2 hz => ?_)
  · obtain ⟨rfl, hq⟩ := hr r G2 hz
    refine h_goto (pc' := 18) dL_rules_11 (by decide) ?_
    refine h_iconst (x := 0) (pc' := 19) dL_rules_18 rfl rfl ?_
    exact h_iret dL_rules_19 rfl hq
  · rcases hX X G2 hz with ⟨rfl, hq⟩
    · refine ⟨14, 6, 2, ⟨[], ⟨0, 11, 14, 13⟩, _, rfl, (fun z hz => nomatch hz), rfl, by decide, ⟨_, kL_13, cst_xIA⟩, rfl⟩, by decide, Or.inr ⟨rfl, dL_rules_14⟩, ?_⟩
      refine h_iconst (x := 1) (pc' := 17) dL_rules_16 rfl rfl ?_
      exact h_iret dL_rules_17 rfl hq
theorem hL_order : zcH [(0, 5, 8, 13)] mL_order 2 := ⟨List.forall_mem_cons.mpr ⟨zg_5 124 (by decide +kernel) rfl, List.forall_mem_cons.mpr ⟨zg_1 0 (by decide +kernel) rfl, List.forall_mem_cons.mpr ⟨zg_5 125 (by decide +kernel) rfl, fun _ h => nomatch h⟩⟩⟩, ⟨by decide +kernel, by decide +kernel, by decide +kernel⟩, by decide⟩
theorem w_order {x1 : Int32} (hm : zMet E l mX11_order d b [.ref (zp 384 0), .int x1] G Qz) (ho : zob G (zp 384 0) 12) (hr : ∀ r G', Qz (.inl r) G' → r = none ∧ Q (.inl (some (.int 0))) G') (hX : ∀ X G', Qz (.inr X) G' → (X = xIA ∧ Q (.inl (some (.int 1))) G')) : zMetH [(0, 5, 8, 13)] E l mL_order (d + 1) b [.ref (zp 384 0), .int x1] G Q := by
  refine h_meth (by decide) (Nat.le_of_ble_eq_true rfl) (by simp [Value.category]) ?_
  refine h_aload_n (j := 0) (pc' := 1) dL_order_0 rfl rfl ?_
  refine h_iload_n (j := 1) (pc' := 2) dL_order_1 rfl rfl ?_
  refine h_callV (Y := mX11_order) (n := 1) (as := [.int x1]) (st := []) (pc' := 5) (ci := 12) (q := zp 384 0) hm dL_order_2 kL_70 vX11_order rfl rfl (by decide) rfl ho (Nat.le_refl _) (Nat.le_refl _) (Nat.le_of_ble_eq_true rfl) (fun r G2 hz => ?_) (fun X G2 hz => ?_)
  · obtain ⟨rfl, hq⟩ := hr r G2 hz
    refine h_goto (pc' := 11) dL_order_5 (by decide) ?_
    refine h_iconst (x := 0) (pc' := 12) dL_order_11 rfl rfl ?_
    exact h_iret dL_order_12 rfl hq
  · rcases hX X G2 hz with ⟨rfl, hq⟩
    · refine ⟨8, 2, 1, ⟨[], ⟨0, 5, 8, 13⟩, _, rfl, (fun z hz => nomatch hz), rfl, by decide, ⟨_, kL_13, cst_xIA⟩, rfl⟩, by decide, Or.inl ⟨2, rfl, rfl, dL_order_8⟩, ?_⟩
      refine h_iconst (x := 1) (pc' := 10) dL_order_9 rfl rfl ?_
      exact h_iret dL_order_10 rfl hq
theorem hL_blanks : zcH [(0, 9, 12, 13)] mL_blanks 3 := ⟨List.forall_mem_cons.mpr ⟨zg_5 134 (by decide +kernel) rfl, List.forall_mem_cons.mpr ⟨zg_1 0 (by decide +kernel) rfl, List.forall_mem_cons.mpr ⟨zg_5 135 (by decide +kernel) rfl, fun _ h => nomatch h⟩⟩⟩, ⟨by decide +kernel, by decide +kernel, by decide +kernel⟩, by decide⟩
theorem w_blanks {x1 : Int32} (hm : zMet E l mX11_blanks d b [.ref (zp 384 0), .int x1] G Qz) (ho : zob G (zp 384 0) 12) (hr : ∀ r G', Qz (.inl r) G' → ∃ y, r = some (.int y) ∧ zar G' zout 3 ∧ zln G' zout = 1 ∧ Q (.inl (some (.int 0))) (zsi G' zout 0 y)) (hX : ∀ X G', Qz (.inr X) G' → (X = xIA ∧ Q (.inl (some (.int 1))) G')) : zMetH [(0, 9, 12, 13)] E l mL_blanks (d + 1) b [.ref (zp 384 0), .int x1, .ref zout] G Q := by
  refine h_meth (by decide) (Nat.le_of_ble_eq_true rfl) (by simp [Value.category]) ?_
  refine h_aload_n (j := 2) (pc' := 1) dL_blanks_0 rfl rfl ?_
  refine h_iconst (x := 0) (pc' := 2) dL_blanks_1 rfl rfl ?_
  refine h_aload_n (j := 0) (pc' := 3) dL_blanks_2 rfl rfl ?_
  refine h_iload_n (j := 1) (pc' := 4) dL_blanks_3 rfl rfl ?_
  refine h_callV (Y := mX11_blanks) (n := 1) (as := [.int x1]) (st := [.int 0, .ref zout]) (pc' := 7) (ci := 12) (q := zp 384 0) hm dL_blanks_4 kL_74 vX11_blanks rfl rfl (by decide) rfl ho (Nat.le_refl _) (Nat.le_refl _) (Nat.le_of_ble_eq_true rfl) (fun r G2 hz => ?_) (fun X G2 hz => ?_)
  · obtain ⟨y, rfl, ha, hn, hq⟩ := hr r G2 hz
    refine h_i2l (pc' := 8) dL_blanks_7 rfl ?_
    refine h_last (pc' := 9) dL_blanks_8 rfl ha (by rw [hn]; exact n_in (i := 0) (by omega) (by omega)) ?_
    refine h_goto (pc' := 15) dL_blanks_9 (by decide) ?_
    refine h_iconst (x := 0) (pc' := 16) dL_blanks_15 rfl rfl ?_
    exact h_iret dL_blanks_16 rfl hq
  · rcases hX X G2 hz with ⟨rfl, hq⟩
    · refine ⟨12, 3, 1, ⟨[], ⟨0, 9, 12, 13⟩, _, rfl, (fun z hz => nomatch hz), rfl, by decide, ⟨_, kL_13, cst_xIA⟩, rfl⟩, by decide, Or.inl ⟨3, rfl, rfl, dL_blanks_12⟩, ?_⟩
      refine h_iconst (x := 1) (pc' := 14) dL_blanks_13 rfl rfl ?_
      exact h_iret dL_blanks_14 rfl hq
theorem hL_broken : zcH [(0, 6, 9, 13)] mL_broken 3 := ⟨List.forall_mem_cons.mpr ⟨zg_5 141 (by decide +kernel) rfl, List.forall_mem_cons.mpr ⟨zg_1 0 (by decide +kernel) rfl, List.forall_mem_cons.mpr ⟨zg_5 142 (by decide +kernel) rfl, fun _ h => nomatch h⟩⟩⟩, ⟨by decide +kernel, by decide +kernel, by decide +kernel⟩, by decide⟩
theorem w_broken {x1 x2 : Int32} (hm : zMet E l mX11_broken d b [.ref (zp 384 0), .int x1, .int x2] G Qz) (ho : zob G (zp 384 0) 12) (hr : ∀ r G', Qz (.inl r) G' → r = none ∧ Q (.inl (some (.int 0))) G') (hX : ∀ X G', Qz (.inr X) G' → (X = xIA ∧ Q (.inl (some (.int 1))) G')) : zMetH [(0, 6, 9, 13)] E l mL_broken (d + 1) b [.ref (zp 384 0), .int x1, .int x2] G Q := by
  refine h_meth (by decide) (Nat.le_of_ble_eq_true rfl) (by simp [Value.category]) ?_
  refine h_aload_n (j := 0) (pc' := 1) dL_broken_0 rfl rfl ?_
  refine h_iload_n (j := 1) (pc' := 2) dL_broken_1 rfl rfl ?_
  refine h_iload_n (j := 2) (pc' := 3) dL_broken_2 rfl rfl ?_
  refine h_callV (Y := mX11_broken) (n := 2) (as := [.int x1, .int x2]) (st := []) (pc' := 6) (ci := 12) (q := zp 384 0) hm dL_broken_3 kL_77 vX11_broken rfl rfl (by decide) rfl ho (Nat.le_refl _) (Nat.le_refl _) (Nat.le_of_ble_eq_true rfl) (fun r G2 hz => ?_) (fun X G2 hz => ?_)
  · obtain ⟨rfl, hq⟩ := hr r G2 hz
    refine h_goto (pc' := 12) dL_broken_6 (by decide) ?_
    refine h_iconst (x := 0) (pc' := 13) dL_broken_12 rfl rfl ?_
    exact h_iret dL_broken_13 rfl hq
  · rcases hX X G2 hz with ⟨rfl, hq⟩
    · refine ⟨9, 3, 1, ⟨[], ⟨0, 6, 9, 13⟩, _, rfl, (fun z hz => nomatch hz), rfl, by decide, ⟨_, kL_13, cst_xIA⟩, rfl⟩, by decide, Or.inl ⟨3, rfl, rfl, dL_broken_9⟩, ?_⟩
      refine h_iconst (x := 1) (pc' := 11) dL_broken_10 rfl rfl ?_
      exact h_iret dL_broken_11 rfl hq
theorem hL_days : zcH [(0, 9, 12, 13)] mL_days 3 := ⟨List.forall_mem_cons.mpr ⟨zg_5 148 (by decide +kernel) rfl, List.forall_mem_cons.mpr ⟨zg_1 0 (by decide +kernel) rfl, List.forall_mem_cons.mpr ⟨zg_5 149 (by decide +kernel) rfl, fun _ h => nomatch h⟩⟩⟩, ⟨by decide +kernel, by decide +kernel, by decide +kernel⟩, by decide⟩
theorem w_days {x1 : Int32} (hm : zMet E l mX11_days d b [.ref (zp 384 0), .int x1] G Qz) (ho : zob G (zp 384 0) 12) (hr : ∀ r G', Qz (.inl r) G' → ∃ y, r = some (.int y) ∧ zar G' zout 3 ∧ zln G' zout = 1 ∧ Q (.inl (some (.int 0))) (zsi G' zout 0 y)) (hX : ∀ X G', Qz (.inr X) G' → (X = xIA ∧ Q (.inl (some (.int 1))) G')) : zMetH [(0, 9, 12, 13)] E l mL_days (d + 1) b [.ref (zp 384 0), .int x1, .ref zout] G Q := by
  refine h_meth (by decide) (Nat.le_of_ble_eq_true rfl) (by simp [Value.category]) ?_
  refine h_aload_n (j := 2) (pc' := 1) dL_days_0 rfl rfl ?_
  refine h_iconst (x := 0) (pc' := 2) dL_days_1 rfl rfl ?_
  refine h_aload_n (j := 0) (pc' := 3) dL_days_2 rfl rfl ?_
  refine h_iload_n (j := 1) (pc' := 4) dL_days_3 rfl rfl ?_
  refine h_callV (Y := mX11_days) (n := 1) (as := [.int x1]) (st := [.int 0, .ref zout]) (pc' := 7) (ci := 12) (q := zp 384 0) hm dL_days_4 kL_80 vX11_days rfl rfl (by decide) rfl ho (Nat.le_refl _) (Nat.le_refl _) (Nat.le_of_ble_eq_true rfl) (fun r G2 hz => ?_) (fun X G2 hz => ?_)
  · obtain ⟨y, rfl, ha, hn, hq⟩ := hr r G2 hz
    refine h_i2l (pc' := 8) dL_days_7 rfl ?_
    refine h_last (pc' := 9) dL_days_8 rfl ha (by rw [hn]; exact n_in (i := 0) (by omega) (by omega)) ?_
    refine h_goto (pc' := 15) dL_days_9 (by decide) ?_
    refine h_iconst (x := 0) (pc' := 16) dL_days_15 rfl rfl ?_
    exact h_iret dL_days_16 rfl hq
  · rcases hX X G2 hz with ⟨rfl, hq⟩
    · refine ⟨12, 3, 1, ⟨[], ⟨0, 9, 12, 13⟩, _, rfl, (fun z hz => nomatch hz), rfl, by decide, ⟨_, kL_13, cst_xIA⟩, rfl⟩, by decide, Or.inl ⟨3, rfl, rfl, dL_days_12⟩, ?_⟩
      refine h_iconst (x := 1) (pc' := 14) dL_days_13 rfl rfl ?_
      exact h_iret dL_days_14 rfl hq
theorem hL_refuse : zcH [(0, 5, 8, 24), (0, 5, 11, 53)] mL_refuse 2 := ⟨List.forall_mem_cons.mpr ⟨zg_6 8 (by decide +kernel) rfl, List.forall_mem_cons.mpr ⟨zg_1 0 (by decide +kernel) rfl, List.forall_mem_cons.mpr ⟨zg_6 9 (by decide +kernel) rfl, fun _ h => nomatch h⟩⟩⟩, ⟨by decide +kernel, by decide +kernel, by decide +kernel⟩, by decide⟩
theorem w_refuse {x1 : Int32} (hm : zMet E l mX11_refuse d b [.ref (zp 384 0), .int x1] G Qz) (ho : zob G (zp 384 0) 12) (hr : ∀ r G', Qz (.inl r) G' → r = none ∧ Q (.inl (some (.int 0))) G') (hX : ∀ X G', Qz (.inr X) G' → (X = xIO ∧ Q (.inl (some (.int 1))) G') ∨ (X = xIS ∧ Q (.inl (some (.int 2))) G')) : zMetH [(0, 5, 8, 24), (0, 5, 11, 53)] E l mL_refuse (d + 1) b [.ref (zp 384 0), .int x1] G Q := by
  refine h_meth (by decide) (Nat.le_of_ble_eq_true rfl) (by simp [Value.category]) ?_
  refine h_aload_n (j := 0) (pc' := 1) dL_refuse_0 rfl rfl ?_
  refine h_iload_n (j := 1) (pc' := 2) dL_refuse_1 rfl rfl ?_
  refine h_callV (Y := mX11_refuse) (n := 1) (as := [.int x1]) (st := []) (pc' := 5) (ci := 12) (q := zp 384 0) hm dL_refuse_2 kL_83 vX11_refuse rfl rfl (by decide) rfl ho (Nat.le_refl _) (Nat.le_refl _) (Nat.le_of_ble_eq_true rfl) (fun r G2 hz => ?_) (fun X G2 hz => ?_)
  · obtain ⟨rfl, hq⟩ := hr r G2 hz
    refine h_goto (pc' := 14) dL_refuse_5 (by decide) ?_
    refine h_iconst (x := 0) (pc' := 15) dL_refuse_14 rfl rfl ?_
    exact h_iret dL_refuse_15 rfl hq
  · rcases hX X G2 hz with ⟨rfl, hq⟩ | ⟨rfl, hq⟩
    · refine ⟨8, 2, 1, ⟨[], ⟨0, 5, 8, 24⟩, _, rfl, (fun z hz => nomatch hz), rfl, by decide, ⟨_, kL_24, cst_xIO⟩, rfl⟩, by decide, Or.inl ⟨2, rfl, rfl, dL_refuse_8⟩, ?_⟩
      refine h_iconst (x := 1) (pc' := 10) dL_refuse_9 rfl rfl ?_
      exact h_iret dL_refuse_10 rfl hq
    · refine ⟨11, 2, 1, ⟨[⟨0, 5, 8, 24⟩], ⟨0, 5, 11, 53⟩, _, rfl, (List.forall_mem_cons.mpr ⟨Or.inr ⟨by decide, _, kL_24, by simp [zncs]⟩, fun _ h => nomatch h⟩), rfl, by decide, ⟨_, kL_53, cst_xIS⟩, rfl⟩, by decide, Or.inl ⟨2, rfl, rfl, dL_refuse_11⟩, ?_⟩
      refine h_iconst (x := 2) (pc' := 13) dL_refuse_12 rfl rfl ?_
      exact h_iret dL_refuse_13 rfl hq
theorem hL_lose : zcH [(0, 5, 8, 24), (0, 5, 11, 53)] mL_lose 2 := ⟨List.forall_mem_cons.mpr ⟨zg_6 16 (by decide +kernel) rfl, List.forall_mem_cons.mpr ⟨zg_1 0 (by decide +kernel) rfl, List.forall_mem_cons.mpr ⟨zg_6 17 (by decide +kernel) rfl, fun _ h => nomatch h⟩⟩⟩, ⟨by decide +kernel, by decide +kernel, by decide +kernel⟩, by decide⟩
theorem w_lose {x1 : Int32} (hm : zMet E l mX11_lose d b [.ref (zp 384 0), .int x1] G Qz) (ho : zob G (zp 384 0) 12) (hr : ∀ r G', Qz (.inl r) G' → r = none ∧ Q (.inl (some (.int 0))) G') (hX : ∀ X G', Qz (.inr X) G' → (X = xIO ∧ Q (.inl (some (.int 1))) G') ∨ (X = xIS ∧ Q (.inl (some (.int 2))) G')) : zMetH [(0, 5, 8, 24), (0, 5, 11, 53)] E l mL_lose (d + 1) b [.ref (zp 384 0), .int x1] G Q := by
  refine h_meth (by decide) (Nat.le_of_ble_eq_true rfl) (by simp [Value.category]) ?_
  refine h_aload_n (j := 0) (pc' := 1) dL_lose_0 rfl rfl ?_
  refine h_iload_n (j := 1) (pc' := 2) dL_lose_1 rfl rfl ?_
  refine h_callV (Y := mX11_lose) (n := 1) (as := [.int x1]) (st := []) (pc' := 5) (ci := 12) (q := zp 384 0) hm dL_lose_2 kL_86 vX11_lose rfl rfl (by decide) rfl ho (Nat.le_refl _) (Nat.le_refl _) (Nat.le_of_ble_eq_true rfl) (fun r G2 hz => ?_) (fun X G2 hz => ?_)
  · obtain ⟨rfl, hq⟩ := hr r G2 hz
    refine h_goto (pc' := 14) dL_lose_5 (by decide) ?_
    refine h_iconst (x := 0) (pc' := 15) dL_lose_14 rfl rfl ?_
    exact h_iret dL_lose_15 rfl hq
  · rcases hX X G2 hz with ⟨rfl, hq⟩ | ⟨rfl, hq⟩
    · refine ⟨8, 2, 1, ⟨[], ⟨0, 5, 8, 24⟩, _, rfl, (fun z hz => nomatch hz), rfl, by decide, ⟨_, kL_24, cst_xIO⟩, rfl⟩, by decide, Or.inl ⟨2, rfl, rfl, dL_lose_8⟩, ?_⟩
      refine h_iconst (x := 1) (pc' := 10) dL_lose_9 rfl rfl ?_
      exact h_iret dL_lose_10 rfl hq
    · refine ⟨11, 2, 1, ⟨[⟨0, 5, 8, 24⟩], ⟨0, 5, 11, 53⟩, _, rfl, (List.forall_mem_cons.mpr ⟨Or.inr ⟨by decide, _, kL_24, by simp [zncs]⟩, fun _ h => nomatch h⟩), rfl, by decide, ⟨_, kL_53, cst_xIS⟩, rfl⟩, by decide, Or.inl ⟨2, rfl, rfl, dL_lose_11⟩, ?_⟩
      refine h_iconst (x := 2) (pc' := 13) dL_lose_12 rfl rfl ?_
      exact h_iret dL_lose_13 rfl hq
theorem hL_again : zcH [(0, 5, 8, 24), (0, 5, 11, 53)] mL_again 2 := ⟨List.forall_mem_cons.mpr ⟨zg_6 27 (by decide +kernel) rfl, List.forall_mem_cons.mpr ⟨zg_1 0 (by decide +kernel) rfl, List.forall_mem_cons.mpr ⟨zg_6 28 (by decide +kernel) rfl, fun _ h => nomatch h⟩⟩⟩, ⟨by decide +kernel, by decide +kernel, by decide +kernel⟩, by decide⟩
theorem w_again {x1 : Int32} (hm : zMet E l mX11_again d b [.ref (zp 384 0), .int x1] G Qz) (ho : zob G (zp 384 0) 12) (hr : ∀ r G', Qz (.inl r) G' → r = none ∧ Q (.inl (some (.int 0))) G') (hX : ∀ X G', Qz (.inr X) G' → (X = xIO ∧ Q (.inl (some (.int 1))) G') ∨ (X = xIS ∧ Q (.inl (some (.int 2))) G')) : zMetH [(0, 5, 8, 24), (0, 5, 11, 53)] E l mL_again (d + 1) b [.ref (zp 384 0), .int x1] G Q := by
  refine h_meth (by decide) (Nat.le_of_ble_eq_true rfl) (by simp [Value.category]) ?_
  refine h_aload_n (j := 0) (pc' := 1) dL_again_0 rfl rfl ?_
  refine h_iload_n (j := 1) (pc' := 2) dL_again_1 rfl rfl ?_
  refine h_callV (Y := mX11_again) (n := 1) (as := [.int x1]) (st := []) (pc' := 5) (ci := 12) (q := zp 384 0) hm dL_again_2 kL_89 vX11_again rfl rfl (by decide) rfl ho (Nat.le_refl _) (Nat.le_refl _) (Nat.le_of_ble_eq_true rfl) (fun r G2 hz => ?_) (fun X G2 hz => ?_)
  · obtain ⟨rfl, hq⟩ := hr r G2 hz
    refine h_goto (pc' := 14) dL_again_5 (by decide) ?_
    refine h_iconst (x := 0) (pc' := 15) dL_again_14 rfl rfl ?_
    exact h_iret dL_again_15 rfl hq
  · rcases hX X G2 hz with ⟨rfl, hq⟩ | ⟨rfl, hq⟩
    · refine ⟨8, 2, 1, ⟨[], ⟨0, 5, 8, 24⟩, _, rfl, (fun z hz => nomatch hz), rfl, by decide, ⟨_, kL_24, cst_xIO⟩, rfl⟩, by decide, Or.inl ⟨2, rfl, rfl, dL_again_8⟩, ?_⟩
      refine h_iconst (x := 1) (pc' := 10) dL_again_9 rfl rfl ?_
      exact h_iret dL_again_10 rfl hq
    · refine ⟨11, 2, 1, ⟨[⟨0, 5, 8, 24⟩], ⟨0, 5, 11, 53⟩, _, rfl, (List.forall_mem_cons.mpr ⟨Or.inr ⟨by decide, _, kL_24, by simp [zncs]⟩, fun _ h => nomatch h⟩), rfl, by decide, ⟨_, kL_53, cst_xIS⟩, rfl⟩, by decide, Or.inl ⟨2, rfl, rfl, dL_again_11⟩, ?_⟩
      refine h_iconst (x := 2) (pc' := 13) dL_again_12 rfl rfl ?_
      exact h_iret dL_again_13 rfl hq
theorem hL_led : zcH [(0, 10, 13, 24), (0, 10, 17, 44)] mL_led 4 := ⟨List.forall_mem_cons.mpr ⟨zg_6 34 (by decide +kernel) rfl, List.forall_mem_cons.mpr ⟨zg_1 0 (by decide +kernel) rfl, List.forall_mem_cons.mpr ⟨zg_6 35 (by decide +kernel) rfl, fun _ h => nomatch h⟩⟩⟩, ⟨by decide +kernel, by decide +kernel, by decide +kernel⟩, by decide⟩
theorem w_led {x1 x2 : Int32} (hm : zMet E l mX11_led d b [.ref (zp 384 0), .int x1, .int x2] G Qz) (ho : zob G (zp 384 0) 12) (hr : ∀ r G', Qz (.inl r) G' → ∃ y, r = some (.int y) ∧ zar G' zout 3 ∧ zln G' zout = 1 ∧ Q (.inl (some (.int 0))) (zsi G' zout 0 y)) (hX : ∀ X G', Qz (.inr X) G' → (X = xIO ∧ Q (.inl (some (.int 1))) G') ∨ (X = xNS ∧ Q (.inl (some (.int 2))) G')) : zMetH [(0, 10, 13, 24), (0, 10, 17, 44)] E l mL_led (d + 1) b [.ref (zp 384 0), .int x1, .int x2, .ref zout] G Q := by
  refine h_meth (by decide) (Nat.le_of_ble_eq_true rfl) (by simp [Value.category]) ?_
  refine h_aload_n (j := 3) (pc' := 1) dL_led_0 rfl rfl ?_
  refine h_iconst (x := 0) (pc' := 2) dL_led_1 rfl rfl ?_
  refine h_aload_n (j := 0) (pc' := 3) dL_led_2 rfl rfl ?_
  refine h_iload_n (j := 1) (pc' := 4) dL_led_3 rfl rfl ?_
  refine h_iload_n (j := 2) (pc' := 5) dL_led_4 rfl rfl ?_
  refine h_callV (Y := mX11_led) (n := 2) (as := [.int x1, .int x2]) (st := [.int 0, .ref zout]) (pc' := 8) (ci := 12) (q := zp 384 0) hm dL_led_5 kL_92 vX11_led rfl rfl (by decide) rfl ho (Nat.le_refl _) (Nat.le_refl _) (Nat.le_of_ble_eq_true rfl) (fun r G2 hz => ?_) (fun X G2 hz => ?_)
  · obtain ⟨y, rfl, ha, hn, hq⟩ := hr r G2 hz
    refine h_i2l (pc' := 9) dL_led_8 rfl ?_
    refine h_last (pc' := 10) dL_led_9 rfl ha (by rw [hn]; exact n_in (i := 0) (by omega) (by omega)) ?_
    refine h_goto (pc' := 21) dL_led_10 (by decide) ?_
    refine h_iconst (x := 0) (pc' := 22) dL_led_21 rfl rfl ?_
    exact h_iret dL_led_22 rfl hq
  · rcases hX X G2 hz with ⟨rfl, hq⟩ | ⟨rfl, hq⟩
    · refine ⟨13, 4, 2, ⟨[], ⟨0, 10, 13, 24⟩, _, rfl, (fun z hz => nomatch hz), rfl, by decide, ⟨_, kL_24, cst_xIO⟩, rfl⟩, by decide, Or.inr ⟨rfl, dL_led_13⟩, ?_⟩
      refine h_iconst (x := 1) (pc' := 16) dL_led_15 rfl rfl ?_
      exact h_iret dL_led_16 rfl hq
    · refine ⟨17, 4, 2, ⟨[⟨0, 10, 13, 24⟩], ⟨0, 10, 17, 44⟩, _, rfl, (List.forall_mem_cons.mpr ⟨Or.inr ⟨by decide, _, kL_24, by simp [zncs]⟩, fun _ h => nomatch h⟩), rfl, by decide, ⟨_, kL_44, cst_xNS⟩, rfl⟩, by decide, Or.inr ⟨rfl, dL_led_17⟩, ?_⟩
      refine h_iconst (x := 2) (pc' := 20) dL_led_19 rfl rfl ?_
      exact h_iret dL_led_20 rfl hq
theorem hL_queue : zcH [(0, 9, 12, 24)] mL_queue 3 := ⟨List.forall_mem_cons.mpr ⟨zg_6 41 (by decide +kernel) rfl, List.forall_mem_cons.mpr ⟨zg_1 0 (by decide +kernel) rfl, List.forall_mem_cons.mpr ⟨zg_6 42 (by decide +kernel) rfl, fun _ h => nomatch h⟩⟩⟩, ⟨by decide +kernel, by decide +kernel, by decide +kernel⟩, by decide⟩
theorem w_queue {x1 : Int32} (hm : zMet E l mX11_queue d b [.ref (zp 384 0), .int x1] G Qz) (ho : zob G (zp 384 0) 12) (hr : ∀ r G', Qz (.inl r) G' → ∃ y, r = some (.int y) ∧ zar G' zout 3 ∧ zln G' zout = 1 ∧ Q (.inl (some (.int 0))) (zsi G' zout 0 y)) (hX : ∀ X G', Qz (.inr X) G' → (X = xIO ∧ Q (.inl (some (.int 1))) G')) : zMetH [(0, 9, 12, 24)] E l mL_queue (d + 1) b [.ref (zp 384 0), .int x1, .ref zout] G Q := by
  refine h_meth (by decide) (Nat.le_of_ble_eq_true rfl) (by simp [Value.category]) ?_
  refine h_aload_n (j := 2) (pc' := 1) dL_queue_0 rfl rfl ?_
  refine h_iconst (x := 0) (pc' := 2) dL_queue_1 rfl rfl ?_
  refine h_aload_n (j := 0) (pc' := 3) dL_queue_2 rfl rfl ?_
  refine h_iload_n (j := 1) (pc' := 4) dL_queue_3 rfl rfl ?_
  refine h_callV (Y := mX11_queue) (n := 1) (as := [.int x1]) (st := [.int 0, .ref zout]) (pc' := 7) (ci := 12) (q := zp 384 0) hm dL_queue_4 kL_95 vX11_queue rfl rfl (by decide) rfl ho (Nat.le_refl _) (Nat.le_refl _) (Nat.le_of_ble_eq_true rfl) (fun r G2 hz => ?_) (fun X G2 hz => ?_)
  · obtain ⟨y, rfl, ha, hn, hq⟩ := hr r G2 hz
    refine h_i2l (pc' := 8) dL_queue_7 rfl ?_
    refine h_last (pc' := 9) dL_queue_8 rfl ha (by rw [hn]; exact n_in (i := 0) (by omega) (by omega)) ?_
    refine h_goto (pc' := 15) dL_queue_9 (by decide) ?_
    refine h_iconst (x := 0) (pc' := 16) dL_queue_15 rfl rfl ?_
    exact h_iret dL_queue_16 rfl hq
  · rcases hX X G2 hz with ⟨rfl, hq⟩
    · refine ⟨12, 3, 1, ⟨[], ⟨0, 9, 12, 24⟩, _, rfl, (fun z hz => nomatch hz), rfl, by decide, ⟨_, kL_24, cst_xIO⟩, rfl⟩, by decide, Or.inl ⟨3, rfl, rfl, dL_queue_12⟩, ?_⟩
      refine h_iconst (x := 1) (pc' := 14) dL_queue_13 rfl rfl ?_
      exact h_iret dL_queue_14 rfl hq
theorem hL_ahead : zcH [(0, 9, 12, 24)] mL_ahead 3 := ⟨List.forall_mem_cons.mpr ⟨zg_6 49 (by decide +kernel) rfl, List.forall_mem_cons.mpr ⟨zg_1 0 (by decide +kernel) rfl, List.forall_mem_cons.mpr ⟨zg_6 50 (by decide +kernel) rfl, fun _ h => nomatch h⟩⟩⟩, ⟨by decide +kernel, by decide +kernel, by decide +kernel⟩, by decide⟩
theorem w_ahead {x1 : Int32} (hm : zMet E l mX11_ahead d b [.ref (zp 384 0), .int x1] G Qz) (ho : zob G (zp 384 0) 12) (hr : ∀ r G', Qz (.inl r) G' → ∃ y, r = some (.int y) ∧ zar G' zout 3 ∧ zln G' zout = 1 ∧ Q (.inl (some (.int 0))) (zsi G' zout 0 y)) (hX : ∀ X G', Qz (.inr X) G' → (X = xIO ∧ Q (.inl (some (.int 1))) G')) : zMetH [(0, 9, 12, 24)] E l mL_ahead (d + 1) b [.ref (zp 384 0), .int x1, .ref zout] G Q := by
  refine h_meth (by decide) (Nat.le_of_ble_eq_true rfl) (by simp [Value.category]) ?_
  refine h_aload_n (j := 2) (pc' := 1) dL_ahead_0 rfl rfl ?_
  refine h_iconst (x := 0) (pc' := 2) dL_ahead_1 rfl rfl ?_
  refine h_aload_n (j := 0) (pc' := 3) dL_ahead_2 rfl rfl ?_
  refine h_iload_n (j := 1) (pc' := 4) dL_ahead_3 rfl rfl ?_
  refine h_callV (Y := mX11_ahead) (n := 1) (as := [.int x1]) (st := [.int 0, .ref zout]) (pc' := 7) (ci := 12) (q := zp 384 0) hm dL_ahead_4 kL_98 vX11_ahead rfl rfl (by decide) rfl ho (Nat.le_refl _) (Nat.le_refl _) (Nat.le_of_ble_eq_true rfl) (fun r G2 hz => ?_) (fun X G2 hz => ?_)
  · obtain ⟨y, rfl, ha, hn, hq⟩ := hr r G2 hz
    refine h_i2l (pc' := 8) dL_ahead_7 rfl ?_
    refine h_last (pc' := 9) dL_ahead_8 rfl ha (by rw [hn]; exact n_in (i := 0) (by omega) (by omega)) ?_
    refine h_goto (pc' := 15) dL_ahead_9 (by decide) ?_
    refine h_iconst (x := 0) (pc' := 16) dL_ahead_15 rfl rfl ?_
    exact h_iret dL_ahead_16 rfl hq
  · rcases hX X G2 hz with ⟨rfl, hq⟩
    · refine ⟨12, 3, 1, ⟨[], ⟨0, 9, 12, 24⟩, _, rfl, (fun z hz => nomatch hz), rfl, by decide, ⟨_, kL_24, cst_xIO⟩, rfl⟩, by decide, Or.inl ⟨3, rfl, rfl, dL_ahead_12⟩, ?_⟩
      refine h_iconst (x := 1) (pc' := 14) dL_ahead_13 rfl rfl ?_
      exact h_iret dL_ahead_14 rfl hq
theorem hL_booklet : zcH [(0, 10, 13, 24), (0, 10, 17, 44)] mL_booklet 4 := ⟨List.forall_mem_cons.mpr ⟨zg_6 63 (by decide +kernel) rfl, List.forall_mem_cons.mpr ⟨zg_1 0 (by decide +kernel) rfl, List.forall_mem_cons.mpr ⟨zg_6 64 (by decide +kernel) rfl, fun _ h => nomatch h⟩⟩⟩, ⟨by decide +kernel, by decide +kernel, by decide +kernel⟩, by decide⟩
theorem w_booklet {x1 x2 : Int32} (hm : zMet E l mX11_booklet d b [.ref (zp 384 0), .int x1, .int x2] G Qz) (ho : zob G (zp 384 0) 12) (hr : ∀ r G', Qz (.inl r) G' → ∃ y, r = some (.int y) ∧ zar G' zout 3 ∧ zln G' zout = 1 ∧ Q (.inl (some (.int 0))) (zsi G' zout 0 y)) (hX : ∀ X G', Qz (.inr X) G' → (X = xIO ∧ Q (.inl (some (.int 1))) G') ∨ (X = xNS ∧ Q (.inl (some (.int 2))) G')) : zMetH [(0, 10, 13, 24), (0, 10, 17, 44)] E l mL_booklet (d + 1) b [.ref (zp 384 0), .int x1, .int x2, .ref zout] G Q := by
  refine h_meth (by decide) (Nat.le_of_ble_eq_true rfl) (by simp [Value.category]) ?_
  refine h_aload_n (j := 3) (pc' := 1) dL_booklet_0 rfl rfl ?_
  refine h_iconst (x := 0) (pc' := 2) dL_booklet_1 rfl rfl ?_
  refine h_aload_n (j := 0) (pc' := 3) dL_booklet_2 rfl rfl ?_
  refine h_iload_n (j := 1) (pc' := 4) dL_booklet_3 rfl rfl ?_
  refine h_iload_n (j := 2) (pc' := 5) dL_booklet_4 rfl rfl ?_
  refine h_callV (Y := mX11_booklet) (n := 2) (as := [.int x1, .int x2]) (st := [.int 0, .ref zout]) (pc' := 8) (ci := 12) (q := zp 384 0) hm dL_booklet_5 kL_101 vX11_booklet rfl rfl (by decide) rfl ho (Nat.le_refl _) (Nat.le_refl _) (Nat.le_of_ble_eq_true rfl) (fun r G2 hz => ?_) (fun X G2 hz => ?_)
  · obtain ⟨y, rfl, ha, hn, hq⟩ := hr r G2 hz
    refine h_i2l (pc' := 9) dL_booklet_8 rfl ?_
    refine h_last (pc' := 10) dL_booklet_9 rfl ha (by rw [hn]; exact n_in (i := 0) (by omega) (by omega)) ?_
    refine h_goto (pc' := 21) dL_booklet_10 (by decide) ?_
    refine h_iconst (x := 0) (pc' := 22) dL_booklet_21 rfl rfl ?_
    exact h_iret dL_booklet_22 rfl hq
  · rcases hX X G2 hz with ⟨rfl, hq⟩ | ⟨rfl, hq⟩
    · refine ⟨13, 4, 2, ⟨[], ⟨0, 10, 13, 24⟩, _, rfl, (fun z hz => nomatch hz), rfl, by decide, ⟨_, kL_24, cst_xIO⟩, rfl⟩, by decide, Or.inr ⟨rfl, dL_booklet_13⟩, ?_⟩
      refine h_iconst (x := 1) (pc' := 16) dL_booklet_15 rfl rfl ?_
      exact h_iret dL_booklet_16 rfl hq
    · refine ⟨17, 4, 2, ⟨[⟨0, 10, 13, 24⟩], ⟨0, 10, 17, 44⟩, _, rfl, (List.forall_mem_cons.mpr ⟨Or.inr ⟨by decide, _, kL_24, by simp [zncs]⟩, fun _ h => nomatch h⟩), rfl, by decide, ⟨_, kL_44, cst_xNS⟩, rfl⟩, by decide, Or.inr ⟨rfl, dL_booklet_17⟩, ?_⟩
      refine h_iconst (x := 2) (pc' := 20) dL_booklet_19 rfl rfl ?_
      exact h_iret dL_booklet_20 rfl hq
theorem hL_valid : zcH [(0, 10, 13, 24)] mL_valid 4 := ⟨List.forall_mem_cons.mpr ⟨zg_6 71 (by decide +kernel) rfl, List.forall_mem_cons.mpr ⟨zg_1 0 (by decide +kernel) rfl, List.forall_mem_cons.mpr ⟨zg_6 72 (by decide +kernel) rfl, fun _ h => nomatch h⟩⟩⟩, ⟨by decide +kernel, by decide +kernel, by decide +kernel⟩, by decide⟩
theorem w_valid {x1 x2 : Int32} (hm : zMet E l mX11_valid d b [.ref (zp 384 0), .int x1, .int x2] G Qz) (ho : zob G (zp 384 0) 12) (hr : ∀ r G', Qz (.inl r) G' → ∃ y, r = some (.int y) ∧ zar G' zout 3 ∧ zln G' zout = 1 ∧ Q (.inl (some (.int 0))) (zsi G' zout 0 y)) (hX : ∀ X G', Qz (.inr X) G' → (X = xIO ∧ Q (.inl (some (.int 1))) G')) : zMetH [(0, 10, 13, 24)] E l mL_valid (d + 1) b [.ref (zp 384 0), .int x1, .int x2, .ref zout] G Q := by
  refine h_meth (by decide) (Nat.le_of_ble_eq_true rfl) (by simp [Value.category]) ?_
  refine h_aload_n (j := 3) (pc' := 1) dL_valid_0 rfl rfl ?_
  refine h_iconst (x := 0) (pc' := 2) dL_valid_1 rfl rfl ?_
  refine h_aload_n (j := 0) (pc' := 3) dL_valid_2 rfl rfl ?_
  refine h_iload_n (j := 1) (pc' := 4) dL_valid_3 rfl rfl ?_
  refine h_iload_n (j := 2) (pc' := 5) dL_valid_4 rfl rfl ?_
  refine h_callV (Y := mX11_valid) (n := 2) (as := [.int x1, .int x2]) (st := [.int 0, .ref zout]) (pc' := 8) (ci := 12) (q := zp 384 0) hm dL_valid_5 kL_104 vX11_valid rfl rfl (by decide) rfl ho (Nat.le_refl _) (Nat.le_refl _) (Nat.le_of_ble_eq_true rfl) (fun r G2 hz => ?_) (fun X G2 hz => ?_)
  · obtain ⟨y, rfl, ha, hn, hq⟩ := hr r G2 hz
    refine h_i2l (pc' := 9) dL_valid_8 rfl ?_
    refine h_last (pc' := 10) dL_valid_9 rfl ha (by rw [hn]; exact n_in (i := 0) (by omega) (by omega)) ?_
    refine h_goto (pc' := 17) dL_valid_10 (by decide) ?_
    refine h_iconst (x := 0) (pc' := 18) dL_valid_17 rfl rfl ?_
    exact h_iret dL_valid_18 rfl hq
  · rcases hX X G2 hz with ⟨rfl, hq⟩
    · refine ⟨13, 4, 2, ⟨[], ⟨0, 10, 13, 24⟩, _, rfl, (fun z hz => nomatch hz), rfl, by decide, ⟨_, kL_24, cst_xIO⟩, rfl⟩, by decide, Or.inr ⟨rfl, dL_valid_13⟩, ?_⟩
      refine h_iconst (x := 1) (pc' := 16) dL_valid_15 rfl rfl ?_
      exact h_iret dL_valid_16 rfl hq
theorem hL_missed : zcH [(0, 10, 13, 13)] mL_missed 4 := ⟨List.forall_mem_cons.mpr ⟨zg_6 78 (by decide +kernel) rfl, List.forall_mem_cons.mpr ⟨zg_1 0 (by decide +kernel) rfl, List.forall_mem_cons.mpr ⟨zg_6 79 (by decide +kernel) rfl, fun _ h => nomatch h⟩⟩⟩, ⟨by decide +kernel, by decide +kernel, by decide +kernel⟩, by decide⟩
theorem w_missed {x1 x2 : Int32} (hm : zMet E l mX11_missed d b [.ref (zp 384 0), .int x1, .int x2] G Qz) (ho : zob G (zp 384 0) 12) (hr : ∀ r G', Qz (.inl r) G' → ∃ y, r = some (.int y) ∧ zar G' zout 3 ∧ zln G' zout = 1 ∧ Q (.inl (some (.int 0))) (zsi G' zout 0 y)) (hX : ∀ X G', Qz (.inr X) G' → (X = xIA ∧ Q (.inl (some (.int 1))) G')) : zMetH [(0, 10, 13, 13)] E l mL_missed (d + 1) b [.ref (zp 384 0), .int x1, .int x2, .ref zout] G Q := by
  refine h_meth (by decide) (Nat.le_of_ble_eq_true rfl) (by simp [Value.category]) ?_
  refine h_aload_n (j := 3) (pc' := 1) dL_missed_0 rfl rfl ?_
  refine h_iconst (x := 0) (pc' := 2) dL_missed_1 rfl rfl ?_
  refine h_aload_n (j := 0) (pc' := 3) dL_missed_2 rfl rfl ?_
  refine h_iload_n (j := 1) (pc' := 4) dL_missed_3 rfl rfl ?_
  refine h_iload_n (j := 2) (pc' := 5) dL_missed_4 rfl rfl ?_
  refine h_callV (Y := mX11_missed) (n := 2) (as := [.int x1, .int x2]) (st := [.int 0, .ref zout]) (pc' := 8) (ci := 12) (q := zp 384 0) hm dL_missed_5 kL_107 vX11_missed rfl rfl (by decide) rfl ho (Nat.le_refl _) (Nat.le_refl _) (Nat.le_of_ble_eq_true rfl) (fun r G2 hz => ?_) (fun X G2 hz => ?_)
  · obtain ⟨y, rfl, ha, hn, hq⟩ := hr r G2 hz
    refine h_i2l (pc' := 9) dL_missed_8 rfl ?_
    refine h_last (pc' := 10) dL_missed_9 rfl ha (by rw [hn]; exact n_in (i := 0) (by omega) (by omega)) ?_
    refine h_goto (pc' := 17) dL_missed_10 (by decide) ?_
    refine h_iconst (x := 0) (pc' := 18) dL_missed_17 rfl rfl ?_
    exact h_iret dL_missed_18 rfl hq
  · rcases hX X G2 hz with ⟨rfl, hq⟩
    · refine ⟨13, 4, 2, ⟨[], ⟨0, 10, 13, 13⟩, _, rfl, (fun z hz => nomatch hz), rfl, by decide, ⟨_, kL_13, cst_xIA⟩, rfl⟩, by decide, Or.inr ⟨rfl, dL_missed_13⟩, ?_⟩
      refine h_iconst (x := 1) (pc' := 16) dL_missed_15 rfl rfl ?_
      exact h_iret dL_missed_16 rfl hq
theorem hL_waits : zcH [(0, 10, 13, 13)] mL_waits 4 := ⟨List.forall_mem_cons.mpr ⟨zg_6 115 (by decide +kernel) rfl, List.forall_mem_cons.mpr ⟨zg_1 0 (by decide +kernel) rfl, List.forall_mem_cons.mpr ⟨zg_6 116 (by decide +kernel) rfl, fun _ h => nomatch h⟩⟩⟩, ⟨by decide +kernel, by decide +kernel, by decide +kernel⟩, by decide⟩
theorem w_waits {x1 x2 : Int32} (hm : zMet E l mX11_waits d b [.ref (zp 384 0), .int x1, .int x2] G Qz) (ho : zob G (zp 384 0) 12) (hr : ∀ r G', Qz (.inl r) G' → ∃ y, r = some (.int y) ∧ zar G' zout 3 ∧ zln G' zout = 1 ∧ Q (.inl (some (.int 0))) (zsi G' zout 0 y)) (hX : ∀ X G', Qz (.inr X) G' → (X = xIA ∧ Q (.inl (some (.int 1))) G')) : zMetH [(0, 10, 13, 13)] E l mL_waits (d + 1) b [.ref (zp 384 0), .int x1, .int x2, .ref zout] G Q := by
  refine h_meth (by decide) (Nat.le_of_ble_eq_true rfl) (by simp [Value.category]) ?_
  refine h_aload_n (j := 3) (pc' := 1) dL_waits_0 rfl rfl ?_
  refine h_iconst (x := 0) (pc' := 2) dL_waits_1 rfl rfl ?_
  refine h_aload_n (j := 0) (pc' := 3) dL_waits_2 rfl rfl ?_
  refine h_iload_n (j := 1) (pc' := 4) dL_waits_3 rfl rfl ?_
  refine h_iload_n (j := 2) (pc' := 5) dL_waits_4 rfl rfl ?_
  refine h_callV (Y := mX11_waits) (n := 2) (as := [.int x1, .int x2]) (st := [.int 0, .ref zout]) (pc' := 8) (ci := 12) (q := zp 384 0) hm dL_waits_5 kL_110 vX11_waits rfl rfl (by decide) rfl ho (Nat.le_refl _) (Nat.le_refl _) (Nat.le_of_ble_eq_true rfl) (fun r G2 hz => ?_) (fun X G2 hz => ?_)
  · obtain ⟨y, rfl, ha, hn, hq⟩ := hr r G2 hz
    refine h_i2l (pc' := 9) dL_waits_8 rfl ?_
    refine h_last (pc' := 10) dL_waits_9 rfl ha (by rw [hn]; exact n_in (i := 0) (by omega) (by omega)) ?_
    refine h_goto (pc' := 17) dL_waits_10 (by decide) ?_
    refine h_iconst (x := 0) (pc' := 18) dL_waits_17 rfl rfl ?_
    exact h_iret dL_waits_18 rfl hq
  · rcases hX X G2 hz with ⟨rfl, hq⟩
    · refine ⟨13, 4, 2, ⟨[], ⟨0, 10, 13, 13⟩, _, rfl, (fun z hz => nomatch hz), rfl, by decide, ⟨_, kL_13, cst_xIA⟩, rfl⟩, by decide, Or.inr ⟨rfl, dL_waits_13⟩, ?_⟩
      refine h_iconst (x := 1) (pc' := 16) dL_waits_15 rfl rfl ?_
      exact h_iret dL_waits_16 rfl hq
end ZWrap
