/-! what the reference's methods come to, in its numbers -/
def rwp_X12_prints_0 (E : ZE) (l : Launch) (d b : Nat) (A G : ZG) (Q : Option Value → ZS9 → Prop) (k : Nat) (x1 : Int32) (S : ZS9) : Prop :=
  vp_in x1 120 ∧
  zW E l mX12_prints d b A (rQ G Q) k 9 [some (.ref (zp 416 0)), some (.int x1), some (.int (S 1153 x1.toNatClampNeg)), some (.int 0)] [] (zput G S)
theorem rwpt_X12_prints_0 {E : ZE} {l : Launch} {d b : Nat} {A G : ZG} {Q : Option Value → ZS9 → Prop} {k : Nat} {x1 : Int32} {S : ZS9} (hK : RK G) (h : rwp_X12_prints_0 E l d b A G Q k x1 S) : zW E l mX12_prints d b A (rQ G Q) k 0 [some (.ref (zp 416 0)), some (.int x1), none, none] [] (zput G S) := by
  unfold rwp_X12_prints_0 at h
  refine z_aload_n (pc' := 1) dX12_prints_0 rfl rfl ?_
  refine r_getA (kf := 53) (pc' := 4) hK rt_53 dX12_prints_1 kX12_112 rfl (by decide) (by decide) rfl ?_
  refine z_iload_n (pc' := 5) dX12_prints_4 rfl rfl ?_
  obtain ⟨h1, h⟩ := h
  refine r_iald (pc' := 6) hK rt_53 rfl dX12_prints_5 rfl h1 ?_
  refine z_istore_n (pc' := 7) dX12_prints_6 (by decide) rfl ?_
  refine z_iconst (x := 0) (pc' := 8) dX12_prints_7 (by decide) rfl ?_
  refine z_istore_n (pc' := 9) dX12_prints_8 (by decide) rfl ?_
  exact z_dr (ls' := [some (.ref (zp 416 0)), some (.int x1), some (.int (S 1153 x1.toNatClampNeg)), some (.int 0)]) ⟨rfl, rfl, rfl, rfl, trivial⟩ h
def rwp_X12_prints_9 (E : ZE) (l : Launch) (d b : Nat) (A G : ZG) (Q : Option Value → ZS9 → Prop) (k : Nat) (x1 : Int32) (x2 : Int32) (x3 : Int32) (S : ZS9) : Prop :=
  (((S 416 71) ≤ x3 →
    zW E l mX12_prints d b A (rQ G Q) k 79 [some (.ref (zp 416 0)), some (.int x1), some (.int x2), none] [] (zput G S)) ∧
  (¬ ((S 416 71) ≤ x3) →
    vp_in x1 120 ∧
    (((S 1154 x1.toNatClampNeg) = 3 →
      zW E l mX12_prints d b A (rQ G Q) k 79 [some (.ref (zp 416 0)), some (.int x1), some (.int x2), none] [] (zput G S)) ∧
    (¬ ((S 1154 x1.toNatClampNeg) = 3) →
      vp_in x3 150 ∧
      ((¬ (S 1167 x3.toNatClampNeg) = x2 →
        zW E l mX12_prints d b A (rQ G Q) k 9 [some (.ref (zp 416 0)), some (.int x1), some (.int x2), some (.int (x3 + 1))] [] (zput G S)) ∧
      (¬ (¬ (S 1167 x3.toNatClampNeg) = x2) →
        vp_in x3 150 ∧
        (((S 416 1) < (S 1168 x3.toNatClampNeg) →
          zW E l mX12_prints d b A (rQ G Q) k 9 [some (.ref (zp 416 0)), some (.int x1), some (.int x2), some (.int (x3 + 1))] [] (zput G S)) ∧
        (¬ ((S 416 1) < (S 1168 x3.toNatClampNeg)) →
          vp_in x3 150 ∧
          (((S 1169 x3.toNatClampNeg) ≤ (S 416 1) →
            zW E l mX12_prints d b A (rQ G Q) k 9 [some (.ref (zp 416 0)), some (.int x1), some (.int x2), some (.int (x3 + 1))] [] (zput G S)) ∧
          (¬ ((S 1169 x3.toNatClampNeg) ≤ (S 416 1)) →
            vp_in x3 150 ∧
            ∀ S1, S1 = zup S 1169 x3.toNatClampNeg (S 416 1) →
            zW E l mX12_prints d b A (rQ G Q) k 9 [some (.ref (zp 416 0)), some (.int x1), some (.int x2), some (.int (x3 + 1))] [] (zput G S1)))))))))))
theorem rwpt_X12_prints_9 {E : ZE} {l : Launch} {d b : Nat} {A G : ZG} {Q : Option Value → ZS9 → Prop} {k : Nat} {x1 : Int32} {x2 : Int32} {x3 : Int32} {S : ZS9} (hK : RK G) (h : rwp_X12_prints_9 E l d b A G Q k x1 x2 x3 S) : zW E l mX12_prints d b A (rQ G Q) k 9 [some (.ref (zp 416 0)), some (.int x1), some (.int x2), some (.int x3)] [] (zput G S) := by
  unfold rwp_X12_prints_9 at h
  refine z_iload_n (pc' := 10) dX12_prints_9 rfl rfl ?_
  refine z_aload_n (pc' := 11) dX12_prints_10 rfl rfl ?_
  refine r_getI (kf := 71) (pc' := 14) hK dX12_prints_11 kX12_415 rfl (by decide) (by decide) rfl ?_
  refine z_icmp_ge (pt := 79) (pc' := 17) dX12_prints_14 (by decide) rfl (fun hc => ?_) (fun hc => ?_)
  · have h := h.1 hc
    exact z_dr (ls' := [some (.ref (zp 416 0)), some (.int x1), some (.int x2), none]) ⟨rfl, rfl, rfl, trivial⟩ h
  · have h := h.2 hc
    refine z_aload_n (pc' := 18) dX12_prints_17 rfl rfl ?_
    refine r_getA (kf := 54) (pc' := 21) hK rt_54 dX12_prints_18 kX12_115 rfl (by decide) (by decide) rfl ?_
    refine z_iload_n (pc' := 22) dX12_prints_21 rfl rfl ?_
    obtain ⟨h1, h⟩ := h
    refine r_iald (pc' := 23) hK rt_54 rfl dX12_prints_22 rfl h1 ?_
    refine z_iconst (x := 3) (pc' := 24) dX12_prints_23 (by decide) rfl ?_
    refine z_icmp_eq (pt := 79) (pc' := 27) dX12_prints_24 (by decide) rfl (fun hc => ?_) (fun hc => ?_)
    · have h := h.1 hc
      exact z_dr (ls' := [some (.ref (zp 416 0)), some (.int x1), some (.int x2), none]) ⟨rfl, rfl, rfl, trivial⟩ h
    · have h := h.2 hc
      refine z_aload_n (pc' := 28) dX12_prints_27 rfl rfl ?_
      refine r_getA (kf := 67) (pc' := 31) hK rt_67 dX12_prints_28 kX12_151 rfl (by decide) (by decide) rfl ?_
      refine z_iload_n (pc' := 32) dX12_prints_31 rfl rfl ?_
      obtain ⟨h1, h⟩ := h
      refine r_iald (pc' := 33) hK rt_67 rfl dX12_prints_32 rfl h1 ?_
      refine z_iload_n (pc' := 34) dX12_prints_33 rfl rfl ?_
      refine z_icmp_ne (pt := 73) (pc' := 37) dX12_prints_34 (by decide) rfl (fun hc => ?_) (fun hc => ?_)
      · have h := h.1 hc
        refine z_iinc (y := x3 + 1) (pc' := 76) dX12_prints_73 rfl (zinc_1 _) (by decide) rfl ?_
        refine z_goto (pc' := 9) dX12_prints_76 (by decide) ?_
        exact z_dr (ls' := [some (.ref (zp 416 0)), some (.int x1), some (.int x2), some (.int (x3 + 1))]) ⟨rfl, rfl, rfl, rfl, trivial⟩ h
      · have h := h.2 hc
        refine z_aload_n (pc' := 38) dX12_prints_37 rfl rfl ?_
        refine r_getA (kf := 68) (pc' := 41) hK rt_68 dX12_prints_38 kX12_154 rfl (by decide) (by decide) rfl ?_
        refine z_iload_n (pc' := 42) dX12_prints_41 rfl rfl ?_
        obtain ⟨h1, h⟩ := h
        refine r_iald (pc' := 43) hK rt_68 rfl dX12_prints_42 rfl h1 ?_
        refine z_aload_n (pc' := 44) dX12_prints_43 rfl rfl ?_
        refine r_getI (kf := 1) (pc' := 47) hK dX12_prints_44 kX12_314 rfl (by decide) (by decide) rfl ?_
        refine z_icmp_gt (pt := 73) (pc' := 50) dX12_prints_47 (by decide) rfl (fun hc => ?_) (fun hc => ?_)
        · have h := h.1 hc
          refine z_iinc (y := x3 + 1) (pc' := 76) dX12_prints_73 rfl (zinc_1 _) (by decide) rfl ?_
          refine z_goto (pc' := 9) dX12_prints_76 (by decide) ?_
          exact z_dr (ls' := [some (.ref (zp 416 0)), some (.int x1), some (.int x2), some (.int (x3 + 1))]) ⟨rfl, rfl, rfl, rfl, trivial⟩ h
        · have h := h.2 hc
          refine z_aload_n (pc' := 51) dX12_prints_50 rfl rfl ?_
          refine r_getI (kf := 1) (pc' := 54) hK dX12_prints_51 kX12_314 rfl (by decide) (by decide) rfl ?_
          refine z_aload_n (pc' := 55) dX12_prints_54 rfl rfl ?_
          refine r_getA (kf := 69) (pc' := 58) hK rt_69 dX12_prints_55 kX12_157 rfl (by decide) (by decide) rfl ?_
          refine z_iload_n (pc' := 59) dX12_prints_58 rfl rfl ?_
          obtain ⟨h1, h⟩ := h
          refine r_iald (pc' := 60) hK rt_69 rfl dX12_prints_59 rfl h1 ?_
          refine z_icmp_ge (pt := 73) (pc' := 63) dX12_prints_60 (by decide) rfl (fun hc => ?_) (fun hc => ?_)
          · have h := h.1 hc
            refine z_iinc (y := x3 + 1) (pc' := 76) dX12_prints_73 rfl (zinc_1 _) (by decide) rfl ?_
            refine z_goto (pc' := 9) dX12_prints_76 (by decide) ?_
            exact z_dr (ls' := [some (.ref (zp 416 0)), some (.int x1), some (.int x2), some (.int (x3 + 1))]) ⟨rfl, rfl, rfl, rfl, trivial⟩ h
          · have h := h.2 hc
            refine z_aload_n (pc' := 64) dX12_prints_63 rfl rfl ?_
            refine r_getA (kf := 69) (pc' := 67) hK rt_69 dX12_prints_64 kX12_157 rfl (by decide) (by decide) rfl ?_
            refine z_iload_n (pc' := 68) dX12_prints_67 rfl rfl ?_
            refine z_aload_n (pc' := 69) dX12_prints_68 rfl rfl ?_
            refine r_getI (kf := 1) (pc' := 72) hK dX12_prints_69 kX12_314 rfl (by decide) (by decide) rfl ?_
            obtain ⟨h1, h⟩ := h
            obtain ⟨S1, hG⟩ : ∃ z, z = zup S 1169 x3.toNatClampNeg (S 416 1) := ⟨_, rfl⟩
            have h := h _ hG
            refine r_iast (pc' := 73) hK rt_69 rfl dX12_prints_72 rfl h1  ?_
            refine r_st hG ?_
            refine z_iinc (y := x3 + 1) (pc' := 76) dX12_prints_73 rfl (zinc_1 _) (by decide) rfl ?_
            refine z_goto (pc' := 9) dX12_prints_76 (by decide) ?_
            exact z_dr (ls' := [some (.ref (zp 416 0)), some (.int x1), some (.int x2), some (.int (x3 + 1))]) ⟨rfl, rfl, rfl, rfl, trivial⟩ h
def rwp_X12_prints_79 (E : ZE) (l : Launch) (d b : Nat) (A G : ZG) (Q : Option Value → ZS9 → Prop) (k : Nat) (x1 : Int32) (x2 : Int32) (S : ZS9) : Prop :=
  vp_in (S 416 71) 150 ∧
  ∀ S1, S1 = zup S 1167 (S 416 71).toNatClampNeg x2 →
  vp_in (S1 416 71) 150 ∧
  ∀ S2, S2 = zup S1 1168 (S1 416 71).toNatClampNeg (S1 416 1) →
  vp_in x1 120 ∧
  vp_in (S2 416 71) 150 ∧
  ∀ S3, S3 = zup S2 1169 (S2 416 71).toNatClampNeg ((S2 416 1) + (365 * (S2 1161 x1.toNatClampNeg))) →
  vp_in (S3 416 71) 150 ∧
  ∀ S4, S4 = zup S3 1170 (S3 416 71).toNatClampNeg x1 →
  rcV E l mX12_sets d [.int x1, .int 1, .int (S4 416 71)] S4 k (fun S5 k6 =>
  ∀ S7, S7 = zup S5 416 71 ((S5 416 71) + 1) →
  ∀ S8, S8 = zup S7 416 43 ((S7 416 43) - 1) →
  vp_in x2 80 ∧
  (((S8 2130 x2.toNatClampNeg) = 0 →
    zW E l mX12_prints d b A (rQ G Q) k6 186 [some (.ref (zp 416 0)), some (.int x1), none, none] [.int (S8 416 40)] (zput G S8)) ∧
  (¬ ((S8 2130 x2.toNatClampNeg) = 0) →
    zW E l mX12_prints d b A (rQ G Q) k6 186 [some (.ref (zp 416 0)), some (.int x1), none, none] [.int (S8 416 41)] (zput G S8))))
theorem rwpt_X12_prints_79 {E : ZE} {l : Launch} {d b : Nat} {A G : ZG} {Q : Option Value → ZS9 → Prop} {k : Nat} {x1 : Int32} {x2 : Int32} {S : ZS9} (hK : RK G) (h : rwp_X12_prints_79 E l d b A G Q k x1 x2 S) : zW E l mX12_prints d b A (rQ G Q) k 79 [some (.ref (zp 416 0)), some (.int x1), some (.int x2), none] [] (zput G S) := by
  unfold rwp_X12_prints_79 at h
  refine z_aload_n (pc' := 80) dX12_prints_79 rfl rfl ?_
  refine r_getA (kf := 67) (pc' := 83) hK rt_67 dX12_prints_80 kX12_151 rfl (by decide) (by decide) rfl ?_
  refine z_aload_n (pc' := 84) dX12_prints_83 rfl rfl ?_
  refine r_getI (kf := 71) (pc' := 87) hK dX12_prints_84 kX12_415 rfl (by decide) (by decide) rfl ?_
  refine z_iload_n (pc' := 88) dX12_prints_87 rfl rfl ?_
  obtain ⟨h1, h⟩ := h
  obtain ⟨S1, hG⟩ : ∃ z, z = zup S 1167 (S 416 71).toNatClampNeg x2 := ⟨_, rfl⟩
  have h := h _ hG
  refine r_iast (pc' := 89) hK rt_67 rfl dX12_prints_88 rfl h1  ?_
  refine r_st hG ?_
  refine z_aload_n (pc' := 90) dX12_prints_89 rfl rfl ?_
  refine r_getA (kf := 68) (pc' := 93) hK rt_68 dX12_prints_90 kX12_154 rfl (by decide) (by decide) rfl ?_
  refine z_aload_n (pc' := 94) dX12_prints_93 rfl rfl ?_
  refine r_getI (kf := 71) (pc' := 97) hK dX12_prints_94 kX12_415 rfl (by decide) (by decide) rfl ?_
  refine z_aload_n (pc' := 98) dX12_prints_97 rfl rfl ?_
  refine r_getI (kf := 1) (pc' := 101) hK dX12_prints_98 kX12_314 rfl (by decide) (by decide) rfl ?_
  obtain ⟨h1, h⟩ := h
  obtain ⟨S2, hG⟩ : ∃ z, z = zup S1 1168 (S1 416 71).toNatClampNeg (S1 416 1) := ⟨_, rfl⟩
  have h := h _ hG
  refine r_iast (pc' := 102) hK rt_68 rfl dX12_prints_101 rfl h1  ?_
  refine r_st hG ?_
  refine z_aload_n (pc' := 103) dX12_prints_102 rfl rfl ?_
  refine r_getA (kf := 69) (pc' := 106) hK rt_69 dX12_prints_103 kX12_157 rfl (by decide) (by decide) rfl ?_
  refine z_aload_n (pc' := 107) dX12_prints_106 rfl rfl ?_
  refine r_getI (kf := 71) (pc' := 110) hK dX12_prints_107 kX12_415 rfl (by decide) (by decide) rfl ?_
  refine z_aload_n (pc' := 111) dX12_prints_110 rfl rfl ?_
  refine r_getI (kf := 1) (pc' := 114) hK dX12_prints_111 kX12_314 rfl (by decide) (by decide) rfl ?_
  refine z_sipush (x := 365) (pc' := 117) dX12_prints_114 (by decide) rfl ?_
  refine z_aload_n (pc' := 118) dX12_prints_117 rfl rfl ?_
  refine r_getA (kf := 61) (pc' := 121) hK rt_61 dX12_prints_118 kX12_136 rfl (by decide) (by decide) rfl ?_
  refine z_iload_n (pc' := 122) dX12_prints_121 rfl rfl ?_
  obtain ⟨h1, h⟩ := h
  refine r_iald (pc' := 123) hK rt_61 rfl dX12_prints_122 rfl h1 ?_
  refine z_imul (pc' := 124) dX12_prints_123 rfl rfl ?_
  refine z_iadd (pc' := 125) dX12_prints_124 rfl rfl ?_
  obtain ⟨h1, h⟩ := h
  obtain ⟨S3, hG⟩ : ∃ z, z = zup S2 1169 (S2 416 71).toNatClampNeg ((S2 416 1) + (365 * (S2 1161 x1.toNatClampNeg))) := ⟨_, rfl⟩
  have h := h _ hG
  refine r_iast (pc' := 126) hK rt_69 rfl dX12_prints_125 rfl h1  ?_
  refine r_st hG ?_
  refine z_aload_n (pc' := 127) dX12_prints_126 rfl rfl ?_
  refine r_getA (kf := 70) (pc' := 130) hK rt_70 dX12_prints_127 kX12_160 rfl (by decide) (by decide) rfl ?_
  refine z_aload_n (pc' := 131) dX12_prints_130 rfl rfl ?_
  refine r_getI (kf := 71) (pc' := 134) hK dX12_prints_131 kX12_415 rfl (by decide) (by decide) rfl ?_
  refine z_iload_n (pc' := 135) dX12_prints_134 rfl rfl ?_
  obtain ⟨h1, h⟩ := h
  obtain ⟨S4, hG⟩ : ∃ z, z = zup S3 1170 (S3 416 71).toNatClampNeg x1 := ⟨_, rfl⟩
  have h := h _ hG
  refine r_iast (pc' := 136) hK rt_70 rfl dX12_prints_135 rfl h1  ?_
  refine r_st hG ?_
  refine z_aload_n (pc' := 137) dX12_prints_136 rfl rfl ?_
  refine z_iload_n (pc' := 138) dX12_prints_137 rfl rfl ?_
  refine z_iconst (x := 1) (pc' := 139) dX12_prints_138 (by decide) rfl ?_
  refine z_aload_n (pc' := 140) dX12_prints_139 rfl rfl ?_
  refine r_getI (kf := 71) (pc' := 143) hK dX12_prints_140 kX12_415 rfl (by decide) (by decide) rfl ?_
  refine r_callV (Y := mX12_sets) (n := 3) (as := [.int x1, .int 1, .int (S4 416 71)]) (st := []) (pc' := 146) h hK dX12_prints_143 kX12_425 vX12_sets rfl rfl rfl (Nat.le_of_ble_eq_true rfl) (fun S5 k6 h => ?_)
  refine z_aload_n (pc' := 147) dX12_prints_146 rfl rfl ?_
  refine z_dup (pc' := 148) dX12_prints_147 rfl rfl ?_
  refine r_getI (kf := 71) (pc' := 151) hK dX12_prints_148 kX12_415 rfl (by decide) (by decide) rfl ?_
  refine z_iconst (x := 1) (pc' := 152) dX12_prints_151 (by decide) rfl ?_
  refine z_iadd (pc' := 153) dX12_prints_152 rfl rfl ?_
  obtain ⟨S7, hG⟩ : ∃ z, z = zup S5 416 71 ((S5 416 71) + 1) := ⟨_, rfl⟩
  have h := h _ hG
  refine r_putI (kf := 71) (pc' := 156) hK dX12_prints_153 kX12_415 rfl (by decide) (by decide) rfl rfl (zok_int _) ?_
  refine r_st hG ?_
  refine z_aload_n (pc' := 157) dX12_prints_156 rfl rfl ?_
  refine z_dup (pc' := 158) dX12_prints_157 rfl rfl ?_
  refine r_getI (kf := 43) (pc' := 161) hK dX12_prints_158 kX12_406 rfl (by decide) (by decide) rfl ?_
  refine z_iconst (x := 1) (pc' := 162) dX12_prints_161 (by decide) rfl ?_
  refine z_isub (pc' := 163) dX12_prints_162 rfl rfl ?_
  obtain ⟨S8, hG⟩ : ∃ z, z = zup S7 416 43 ((S7 416 43) - 1) := ⟨_, rfl⟩
  have h := h _ hG
  refine r_putI (kf := 43) (pc' := 166) hK dX12_prints_163 kX12_406 rfl (by decide) (by decide) rfl rfl (zok_int _) ?_
  refine r_st hG ?_
  refine z_aload_n (pc' := 167) dX12_prints_166 rfl rfl ?_
  refine r_getA (kf := 30) (pc' := 170) hK rt_30 dX12_prints_167 kX12_58 rfl (by decide) (by decide) rfl ?_
  refine z_iload_n (pc' := 171) dX12_prints_170 rfl rfl ?_
  obtain ⟨h1, h⟩ := h
  refine r_zald (pc' := 172) hK rt_30 rfl dX12_prints_171 rfl h1 ?_
  refine z_if_eq (pt := 182) (pc' := 175) dX12_prints_172 (by decide) rfl (fun hc => ?_) (fun hc => ?_)
  · have h := h.1 hc
    refine z_aload_n (pc' := 183) dX12_prints_182 rfl rfl ?_
    refine r_getI (kf := 40) (pc' := 186) hK dX12_prints_183 kX12_85 rfl (by decide) (by decide) rfl ?_
    exact z_dr (ls' := [some (.ref (zp 416 0)), some (.int x1), none, none]) ⟨rfl, rfl, trivial⟩ h
  · have h := h.2 hc
    refine z_aload_n (pc' := 176) dX12_prints_175 rfl rfl ?_
    refine r_getI (kf := 41) (pc' := 179) hK dX12_prints_176 kX12_88 rfl (by decide) (by decide) rfl ?_
    refine z_goto (pc' := 186) dX12_prints_179 (by decide) ?_
    exact z_dr (ls' := [some (.ref (zp 416 0)), some (.int x1), none, none]) ⟨rfl, rfl, trivial⟩ h
def rwp_X12_prints_186 (E : ZE) (l : Launch) (d b : Nat) (A G : ZG) (Q : Option Value → ZS9 → Prop) (k : Nat) (x1 : Int32) (s0 : Int32) (S : ZS9) : Prop :=
  rcV E l mX12_sets d [.int x1, .int 4, .int ((S 416 1) + s0)] S k (fun S1 k2 =>
  ((¬ s0 = 0 →
    rcV E l mX12_sets d [.int x1, .int 0, .int 6] S1 k2 (fun S3 k4 =>
    Q none S3)) ∧
  (¬ (¬ s0 = 0) →
    rcV E l mX12_gets d [.int x1] S1 k2 (fun S5 k6 =>
    Q none S5))))
theorem rwpt_X12_prints_186 {E : ZE} {l : Launch} {d b : Nat} {A G : ZG} {Q : Option Value → ZS9 → Prop} {k : Nat} {x1 : Int32} {s0 : Int32} {S : ZS9} (hK : RK G) (h : rwp_X12_prints_186 E l d b A G Q k x1 s0 S) : zW E l mX12_prints d b A (rQ G Q) k 186 [some (.ref (zp 416 0)), some (.int x1), none, none] [.int s0] (zput G S) := by
  unfold rwp_X12_prints_186 at h
  refine z_istore_n (pc' := 187) dX12_prints_186 (by decide) rfl ?_
  refine z_aload_n (pc' := 188) dX12_prints_187 rfl rfl ?_
  refine z_iload_n (pc' := 189) dX12_prints_188 rfl rfl ?_
  refine z_iconst (x := 4) (pc' := 190) dX12_prints_189 (by decide) rfl ?_
  refine z_aload_n (pc' := 191) dX12_prints_190 rfl rfl ?_
  refine r_getI (kf := 1) (pc' := 194) hK dX12_prints_191 kX12_314 rfl (by decide) (by decide) rfl ?_
  refine z_iload_n (pc' := 195) dX12_prints_194 rfl rfl ?_
  refine z_iadd (pc' := 196) dX12_prints_195 rfl rfl ?_
  refine r_callV (Y := mX12_sets) (n := 3) (as := [.int x1, .int 4, .int ((S 416 1) + s0)]) (st := []) (pc' := 199) h hK dX12_prints_196 kX12_425 vX12_sets rfl rfl rfl (Nat.le_of_ble_eq_true rfl) (fun S1 k2 h => ?_)
  refine z_iload_n (pc' := 200) dX12_prints_199 rfl rfl ?_
  refine z_if_ne (pt := 211) (pc' := 203) dX12_prints_200 (by decide) rfl (fun hc => ?_) (fun hc => ?_)
  · have h := h.1 hc
    refine z_aload_n (pc' := 212) dX12_prints_211 rfl rfl ?_
    refine z_iload_n (pc' := 213) dX12_prints_212 rfl rfl ?_
    refine z_iconst (x := 0) (pc' := 214) dX12_prints_213 (by decide) rfl ?_
    refine z_bipush (x := 6) (pc' := 216) dX12_prints_214 (by decide) rfl ?_
    refine r_callV (Y := mX12_sets) (n := 3) (as := [.int x1, .int 0, .int 6]) (st := []) (pc' := 219) h hK dX12_prints_216 kX12_425 vX12_sets rfl rfl rfl (Nat.le_of_ble_eq_true rfl) (fun S3 k4 h => ?_)
    exact z_vret dX12_prints_219 rfl ⟨_, _, rfl, rfl, h⟩
  · have h := h.2 hc
    refine z_aload_n (pc' := 204) dX12_prints_203 rfl rfl ?_
    refine z_iload_n (pc' := 205) dX12_prints_204 rfl rfl ?_
    refine r_callV (Y := mX12_gets) (n := 1) (as := [.int x1]) (st := []) (pc' := 208) h hK dX12_prints_205 kX12_459 vX12_gets rfl rfl rfl (Nat.le_of_ble_eq_true rfl) (fun S5 k6 h => ?_)
    refine z_goto (pc' := 219) dX12_prints_208 (by decide) ?_
    exact z_vret dX12_prints_219 rfl ⟨_, _, rfl, rfl, h⟩
def rwp_X12_queue_0 (E : ZE) (l : Launch) (d b : Nat) (A G : ZG) (Q : Option Value → ZS9 → Prop) (k : Nat) (x1 : Int32) (S : ZS9) : Prop :=
  ∀ S1, S1 = zup S 416 0 0 →
  scI E l mX12_noDesk d [.int x1] (fun y2 =>
  rcI E l mX12_throwsIf d [.int y2, .int 1] S1 k (fun y5 S3 k4 =>
  ((y5 = 0 →
    rcV E l mX12_lines d [.int x1, .int (S3 416 42)] S3 k4 (fun S6 k7 =>
    Q (some (.int (S6 416 78))) S6)) ∧
  (¬ (y5 = 0) →
    Q (some (.int 0)) S3))))
theorem rwpt_X12_queue_0 {E : ZE} {l : Launch} {d b : Nat} {A G : ZG} {Q : Option Value → ZS9 → Prop} {k : Nat} {x1 : Int32} {S : ZS9} (hK : RK G) (h : rwp_X12_queue_0 E l d b A G Q k x1 S) : zW E l mX12_queue d b A (rQ G Q) k 0 [some (.ref (zp 416 0)), some (.int x1)] [] (zput G S) := by
  unfold rwp_X12_queue_0 at h
  refine z_aload_n (pc' := 1) dX12_queue_0 rfl rfl ?_
  refine z_iconst (x := 0) (pc' := 2) dX12_queue_1 (by decide) rfl ?_
  obtain ⟨S1, hG⟩ : ∃ z, z = zup S 416 0 0 := ⟨_, rfl⟩
  have h := h _ hG
  refine r_putI (kf := 0) (pc' := 5) hK dX12_queue_2 kX12_178 rfl (by decide) (by decide) rfl rfl (zok_int _) ?_
  refine r_st hG ?_
  refine z_aload_n (pc' := 6) dX12_queue_5 rfl rfl ?_
  refine z_iload_n (pc' := 7) dX12_queue_6 rfl rfl ?_
  refine r_callSI (Y := mX12_noDesk) (n := 1) (as := [.int x1]) (st := [.ref (zp 416 0)]) (pc' := 10) h dX12_queue_7 kX12_394 sX12_noDesk rfl rfl (Nat.le_of_ble_eq_true rfl) (fun y2 h => ?_)
  refine z_iconst (x := 1) (pc' := 11) dX12_queue_10 (by decide) rfl ?_
  refine r_callI (Y := mX12_throwsIf) (n := 2) (as := [.int y2, .int 1]) (st := []) (pc' := 14) h hK dX12_queue_11 kX12_321 vX12_throwsIf rfl rfl rfl (Nat.le_of_ble_eq_true rfl) (fun y5 S3 k4 h => ?_)
  refine z_if_eq (pt := 19) (pc' := 17) dX12_queue_14 (by decide) rfl (fun hc => ?_) (fun hc => ?_)
  · have h := h.1 hc
    refine z_aload_n (pc' := 20) dX12_queue_19 rfl rfl ?_
    refine z_iload_n (pc' := 21) dX12_queue_20 rfl rfl ?_
    refine z_aload_n (pc' := 22) dX12_queue_21 rfl rfl ?_
    refine r_getI (kf := 42) (pc' := 25) hK dX12_queue_22 kX12_403 rfl (by decide) (by decide) rfl ?_
    refine r_callV (Y := mX12_lines) (n := 2) (as := [.int x1, .int (S3 416 42)]) (st := []) (pc' := 28) h hK dX12_queue_25 kX12_468 vX12_lines rfl rfl rfl (Nat.le_of_ble_eq_true rfl) (fun S6 k7 h => ?_)
    refine z_aload_n (pc' := 29) dX12_queue_28 rfl rfl ?_
    refine r_getI (kf := 78) (pc' := 32) hK dX12_queue_29 kX12_447 rfl (by decide) (by decide) rfl ?_
    exact z_iret dX12_queue_32 rfl ⟨_, _, rfl, rfl, h⟩
  · have h := h.2 hc
    refine z_iconst (x := 0) (pc' := 18) dX12_queue_17 (by decide) rfl ?_
    exact z_iret dX12_queue_18 rfl ⟨_, _, rfl, rfl, h⟩
def rwp_X12_readAllOf_0 (E : ZE) (l : Launch) (d b : Nat) (A G : ZG) (Q : Option Value → ZS9 → Prop) (k : Nat)  (S : ZS9) : Prop :=
  rcI E l mX12_readAtom d [] S k (fun y3 S1 k2 =>
  ((¬ y3 = 0 →
    zW E l mX12_readAllOf d b A (rQ G Q) k2 9 [some (.ref (zp 416 0))] [] (zput G S1)) ∧
  (¬ (¬ y3 = 0) →
    Q (some (.int 0)) S1)))
theorem rwpt_X12_readAllOf_0 {E : ZE} {l : Launch} {d b : Nat} {A G : ZG} {Q : Option Value → ZS9 → Prop} {k : Nat}  {S : ZS9} (hK : RK G) (h : rwp_X12_readAllOf_0 E l d b A G Q k  S) : zW E l mX12_readAllOf d b A (rQ G Q) k 0 [some (.ref (zp 416 0))] [] (zput G S) := by
  unfold rwp_X12_readAllOf_0 at h
  refine z_aload_n (pc' := 1) dX12_readAllOf_0 rfl rfl ?_
  refine r_callI (Y := mX12_readAtom) (n := 0) (as := []) (st := []) (pc' := 4) h hK dX12_readAllOf_1 kX12_270 vX12_readAtom rfl rfl rfl (Nat.le_of_ble_eq_true rfl) (fun y3 S1 k2 h => ?_)
  refine z_if_ne (pt := 9) (pc' := 7) dX12_readAllOf_4 (by decide) rfl (fun hc => ?_) (fun hc => ?_)
  · have h := h.1 hc
    exact z_dr (ls' := [some (.ref (zp 416 0))]) ⟨rfl, trivial⟩ h
  · have h := h.2 hc
    refine z_iconst (x := 0) (pc' := 8) dX12_readAllOf_7 (by decide) rfl ?_
    exact z_zret (ty := .boolean) dX12_readAllOf_8 rfl (by decide) ⟨_, _, rfl, rfl, h⟩
def rwp_X12_readAllOf_9 (E : ZE) (l : Launch) (d b : Nat) (A G : ZG) (Q : Option Value → ZS9 → Prop) (k : Nat)  (S : ZS9) : Prop :=
  rcI E l mX12_passes d [.ref (zp 1000 5)] S k (fun y3 S1 k2 =>
  ((y3 = 0 →
    Q (some (.int 1)) S1) ∧
  (¬ (y3 = 0) →
    rcI E l mX12_readAtom d [] S1 k2 (fun y6 S4 k5 =>
    ((¬ y6 = 0 →
      rcV E l mX12_adds d [.int 101, .int 0, .int 0] S4 k5 (fun S7 k8 =>
      zW E l mX12_readAllOf d b A (rQ G Q) k8 9 [some (.ref (zp 416 0))] [] (zput G S7))) ∧
    (¬ (¬ y6 = 0) →
      Q (some (.int 0)) S4))))))
theorem rwpt_X12_readAllOf_9 {E : ZE} {l : Launch} {d b : Nat} {A G : ZG} {Q : Option Value → ZS9 → Prop} {k : Nat}  {S : ZS9} (hK : RK G) (h : rwp_X12_readAllOf_9 E l d b A G Q k  S) : zW E l mX12_readAllOf d b A (rQ G Q) k 9 [some (.ref (zp 416 0))] [] (zput G S) := by
  unfold rwp_X12_readAllOf_9 at h
  refine z_aload_n (pc' := 10) dX12_readAllOf_9 rfl rfl ?_
  refine z_ldcSW (n := 5) (pc' := 13) (own := RX12) (tx := "and") rfl (by decide) dX12_readAllOf_10 rfl ?_
  refine r_callI (Y := mX12_passes) (n := 1) (as := [.ref (zp 1000 5)]) (st := []) (pc' := 16) h hK dX12_readAllOf_13 kX12_267 vX12_passes rfl rfl rfl (Nat.le_of_ble_eq_true rfl) (fun y3 S1 k2 h => ?_)
  refine z_if_eq (pt := 39) (pc' := 19) dX12_readAllOf_16 (by decide) rfl (fun hc => ?_) (fun hc => ?_)
  · have h := h.1 hc
    refine z_iconst (x := 1) (pc' := 40) dX12_readAllOf_39 (by decide) rfl ?_
    exact z_zret (ty := .boolean) dX12_readAllOf_40 rfl (by decide) ⟨_, _, rfl, rfl, h⟩
  · have h := h.2 hc
    refine z_aload_n (pc' := 20) dX12_readAllOf_19 rfl rfl ?_
    refine r_callI (Y := mX12_readAtom) (n := 0) (as := []) (st := []) (pc' := 23) h hK dX12_readAllOf_20 kX12_270 vX12_readAtom rfl rfl rfl (Nat.le_of_ble_eq_true rfl) (fun y6 S4 k5 h => ?_)
    refine z_if_ne (pt := 28) (pc' := 26) dX12_readAllOf_23 (by decide) rfl (fun hc => ?_) (fun hc => ?_)
    · have h := h.1 hc
      refine z_aload_n (pc' := 29) dX12_readAllOf_28 rfl rfl ?_
      refine z_bipush (x := 101) (pc' := 31) dX12_readAllOf_29 (by decide) rfl ?_
      refine z_iconst (x := 0) (pc' := 32) dX12_readAllOf_31 (by decide) rfl ?_
      refine z_iconst (x := 0) (pc' := 33) dX12_readAllOf_32 (by decide) rfl ?_
      refine r_callV (Y := mX12_adds) (n := 3) (as := [.int 101, .int 0, .int 0]) (st := []) (pc' := 36) h hK dX12_readAllOf_33 kX12_273 vX12_adds rfl rfl rfl (Nat.le_of_ble_eq_true rfl) (fun S7 k8 h => ?_)
      refine z_goto (pc' := 9) dX12_readAllOf_36 (by decide) ?_
      exact z_dr (ls' := [some (.ref (zp 416 0))]) ⟨rfl, trivial⟩ h
    · have h := h.2 hc
      refine z_iconst (x := 0) (pc' := 27) dX12_readAllOf_26 (by decide) rfl ?_
      exact z_zret (ty := .boolean) dX12_readAllOf_27 rfl (by decide) ⟨_, _, rfl, rfl, h⟩
def rwp_X12_readAtom_0 (E : ZE) (l : Launch) (d b : Nat) (A G : ZG) (Q : Option Value → ZS9 → Prop) (k : Nat)  (S : ZS9) : Prop :=
  rcI E l mX12_passesSign d [.int 40] S k (fun y3 S1 k2 =>
  ((y3 = 0 →
    rcI E l mX12_passes d [.ref (zp 1000 3)] S1 k2 (fun y6 S4 k5 =>
    ((y6 = 0 →
      rcV E l mX12_word d [] S4 k5 (fun S7 k8 =>
      zW E l mX12_readAtom d b A (rQ G Q) k8 122 [some (.ref (zp 416 0)), some (.int 0), none, none] [] (zput G S7))) ∧
    (¬ (y6 = 0) →
      ((¬ (S4 416 7) = 8 →
        ∀ S9, S9 = zup S4 416 7 ((S4 416 7) + 1) →
        rcI E l mX12_readAtom d [] S9 k5 (fun y12 S10 k11 =>
        ((¬ y12 = 0 →
          ∀ S13, S13 = zup S10 416 7 ((S10 416 7) - 1) →
          rcV E l mX12_adds d [.int 100, .int 0, .int 0] S13 k11 (fun S14 k15 =>
          Q (some (.int 1)) S14)) ∧
        (¬ (¬ y12 = 0) →
          Q (some (.int 0)) S10)))) ∧
      (¬ (¬ (S4 416 7) = 8) →
        Q (some (.int 0)) S4)))))) ∧
  (¬ (y3 = 0) →
    ((¬ (S1 416 7) = 8 →
      ∀ S16, S16 = zup S1 416 7 ((S1 416 7) + 1) →
      rcI E l mX12_readCond d [] S16 k2 (fun y19 S17 k18 =>
      ((¬ y19 = 0 →
        ∀ S20, S20 = zup S17 416 7 ((S17 416 7) - 1) →
        rcI E l mX12_passesSign d [.int 41] S20 k18 (fun y23 S21 k22 =>
        narrow .boolean (.int y23) = .int y23 ∧ Q (some (.int y23)) S21)) ∧
      (¬ (¬ y19 = 0) →
        Q (some (.int 0)) S17)))) ∧
    (¬ (¬ (S1 416 7) = 8) →
      Q (some (.int 0)) S1)))))
theorem rwpt_X12_readAtom_0 {E : ZE} {l : Launch} {d b : Nat} {A G : ZG} {Q : Option Value → ZS9 → Prop} {k : Nat}  {S : ZS9} (hK : RK G) (h : rwp_X12_readAtom_0 E l d b A G Q k  S) : zW E l mX12_readAtom d b A (rQ G Q) k 0 [some (.ref (zp 416 0)), none, none, none] [] (zput G S) := by
  unfold rwp_X12_readAtom_0 at h
  refine z_aload_n (pc' := 1) dX12_readAtom_0 rfl rfl ?_
  refine z_bipush (x := 40) (pc' := 3) dX12_readAtom_1 (by decide) rfl ?_
  refine r_callI (Y := mX12_passesSign) (n := 1) (as := [.int 40]) (st := []) (pc' := 6) h hK dX12_readAtom_3 kX12_254 vX12_passesSign rfl rfl rfl (Nat.le_of_ble_eq_true rfl) (fun y3 S1 k2 h => ?_)
  refine z_if_eq (pt := 56) (pc' := 9) dX12_readAtom_6 (by decide) rfl (fun hc => ?_) (fun hc => ?_)
  · have h := h.1 hc
    refine z_aload_n (pc' := 57) dX12_readAtom_56 rfl rfl ?_
    refine z_ldcSW (n := 3) (pc' := 60) (own := RX12) (tx := "not") rfl (by decide) dX12_readAtom_57 rfl ?_
    refine r_callI (Y := mX12_passes) (n := 1) (as := [.ref (zp 1000 3)]) (st := []) (pc' := 63) h hK dX12_readAtom_60 kX12_267 vX12_passes rfl rfl rfl (Nat.le_of_ble_eq_true rfl) (fun y6 S4 k5 h => ?_)
    refine z_if_eq (pt := 116) (pc' := 66) dX12_readAtom_63 (by decide) rfl (fun hc => ?_) (fun hc => ?_)
    · have h := h.1 hc
      refine z_aload_n (pc' := 117) dX12_readAtom_116 rfl rfl ?_
      refine r_callV (Y := mX12_word) (n := 0) (as := []) (st := []) (pc' := 120) h hK dX12_readAtom_117 kX12_210 vX12_word rfl rfl rfl (Nat.le_of_ble_eq_true rfl) (fun S7 k8 h => ?_)
      refine z_iconst (x := 0) (pc' := 121) dX12_readAtom_120 (by decide) rfl ?_
      refine z_istore_n (pc' := 122) dX12_readAtom_121 (by decide) rfl ?_
      exact z_dr (ls' := [some (.ref (zp 416 0)), some (.int 0), none, none]) ⟨rfl, rfl, trivial⟩ h
    · have h := h.2 hc
      refine z_aload_n (pc' := 67) dX12_readAtom_66 rfl rfl ?_
      refine r_getI (kf := 7) (pc' := 70) hK dX12_readAtom_67 kX12_258 rfl (by decide) (by decide) rfl ?_
      refine z_bipush (x := 8) (pc' := 72) dX12_readAtom_70 (by decide) rfl ?_
      refine z_icmp_ne (pt := 77) (pc' := 75) dX12_readAtom_72 (by decide) rfl (fun hc => ?_) (fun hc => ?_)
      · have h := h.1 hc
        refine z_aload_n (pc' := 78) dX12_readAtom_77 rfl rfl ?_
        refine z_dup (pc' := 79) dX12_readAtom_78 rfl rfl ?_
        refine r_getI (kf := 7) (pc' := 82) hK dX12_readAtom_79 kX12_258 rfl (by decide) (by decide) rfl ?_
        refine z_iconst (x := 1) (pc' := 83) dX12_readAtom_82 (by decide) rfl ?_
        refine z_iadd (pc' := 84) dX12_readAtom_83 rfl rfl ?_
        obtain ⟨S9, hG⟩ : ∃ z, z = zup S4 416 7 ((S4 416 7) + 1) := ⟨_, rfl⟩
        have h := h _ hG
        refine r_putI (kf := 7) (pc' := 87) hK dX12_readAtom_84 kX12_258 rfl (by decide) (by decide) rfl rfl (zok_int _) ?_
        refine r_st hG ?_
        refine z_aload_n (pc' := 88) dX12_readAtom_87 rfl rfl ?_
        refine r_callI (Y := mX12_readAtom) (n := 0) (as := []) (st := []) (pc' := 91) h hK dX12_readAtom_88 kX12_270 vX12_readAtom rfl rfl rfl (Nat.le_of_ble_eq_true rfl) (fun y12 S10 k11 h => ?_)
        refine z_if_ne (pt := 96) (pc' := 94) dX12_readAtom_91 (by decide) rfl (fun hc => ?_) (fun hc => ?_)
        · have h := h.1 hc
          refine z_aload_n (pc' := 97) dX12_readAtom_96 rfl rfl ?_
          refine z_dup (pc' := 98) dX12_readAtom_97 rfl rfl ?_
          refine r_getI (kf := 7) (pc' := 101) hK dX12_readAtom_98 kX12_258 rfl (by decide) (by decide) rfl ?_
          refine z_iconst (x := 1) (pc' := 102) dX12_readAtom_101 (by decide) rfl ?_
          refine z_isub (pc' := 103) dX12_readAtom_102 rfl rfl ?_
          obtain ⟨S13, hG⟩ : ∃ z, z = zup S10 416 7 ((S10 416 7) - 1) := ⟨_, rfl⟩
          have h := h _ hG
          refine r_putI (kf := 7) (pc' := 106) hK dX12_readAtom_103 kX12_258 rfl (by decide) (by decide) rfl rfl (zok_int _) ?_
          refine r_st hG ?_
          refine z_aload_n (pc' := 107) dX12_readAtom_106 rfl rfl ?_
          refine z_bipush (x := 100) (pc' := 109) dX12_readAtom_107 (by decide) rfl ?_
          refine z_iconst (x := 0) (pc' := 110) dX12_readAtom_109 (by decide) rfl ?_
          refine z_iconst (x := 0) (pc' := 111) dX12_readAtom_110 (by decide) rfl ?_
          refine r_callV (Y := mX12_adds) (n := 3) (as := [.int 100, .int 0, .int 0]) (st := []) (pc' := 114) h hK dX12_readAtom_111 kX12_273 vX12_adds rfl rfl rfl (Nat.le_of_ble_eq_true rfl) (fun S14 k15 h => ?_)
          refine z_iconst (x := 1) (pc' := 115) dX12_readAtom_114 (by decide) rfl ?_
          exact z_zret (ty := .boolean) dX12_readAtom_115 rfl (by decide) ⟨_, _, rfl, rfl, h⟩
        · have h := h.2 hc
          refine z_iconst (x := 0) (pc' := 95) dX12_readAtom_94 (by decide) rfl ?_
          exact z_zret (ty := .boolean) dX12_readAtom_95 rfl (by decide) ⟨_, _, rfl, rfl, h⟩
      · have h := h.2 hc
        refine z_iconst (x := 0) (pc' := 76) dX12_readAtom_75 (by decide) rfl ?_
        exact z_zret (ty := .boolean) dX12_readAtom_76 rfl (by decide) ⟨_, _, rfl, rfl, h⟩
  · have h := h.2 hc
    refine z_aload_n (pc' := 10) dX12_readAtom_9 rfl rfl ?_
    refine r_getI (kf := 7) (pc' := 13) hK dX12_readAtom_10 kX12_258 rfl (by decide) (by decide) rfl ?_
    refine z_bipush (x := 8) (pc' := 15) dX12_readAtom_13 (by decide) rfl ?_
    refine z_icmp_ne (pt := 20) (pc' := 18) dX12_readAtom_15 (by decide) rfl (fun hc => ?_) (fun hc => ?_)
    · have h := h.1 hc
      refine z_aload_n (pc' := 21) dX12_readAtom_20 rfl rfl ?_
      refine z_dup (pc' := 22) dX12_readAtom_21 rfl rfl ?_
      refine r_getI (kf := 7) (pc' := 25) hK dX12_readAtom_22 kX12_258 rfl (by decide) (by decide) rfl ?_
      refine z_iconst (x := 1) (pc' := 26) dX12_readAtom_25 (by decide) rfl ?_
      refine z_iadd (pc' := 27) dX12_readAtom_26 rfl rfl ?_
      obtain ⟨S16, hG⟩ : ∃ z, z = zup S1 416 7 ((S1 416 7) + 1) := ⟨_, rfl⟩
      have h := h _ hG
      refine r_putI (kf := 7) (pc' := 30) hK dX12_readAtom_27 kX12_258 rfl (by decide) (by decide) rfl rfl (zok_int _) ?_
      refine r_st hG ?_
      refine z_aload_n (pc' := 31) dX12_readAtom_30 rfl rfl ?_
      refine r_callI (Y := mX12_readCond) (n := 0) (as := []) (st := []) (pc' := 34) h hK dX12_readAtom_31 kX12_261 vX12_readCond rfl rfl rfl (Nat.le_of_ble_eq_true rfl) (fun y19 S17 k18 h => ?_)
      refine z_if_ne (pt := 39) (pc' := 37) dX12_readAtom_34 (by decide) rfl (fun hc => ?_) (fun hc => ?_)
      · have h := h.1 hc
        refine z_aload_n (pc' := 40) dX12_readAtom_39 rfl rfl ?_
        refine z_dup (pc' := 41) dX12_readAtom_40 rfl rfl ?_
        refine r_getI (kf := 7) (pc' := 44) hK dX12_readAtom_41 kX12_258 rfl (by decide) (by decide) rfl ?_
        refine z_iconst (x := 1) (pc' := 45) dX12_readAtom_44 (by decide) rfl ?_
        refine z_isub (pc' := 46) dX12_readAtom_45 rfl rfl ?_
        obtain ⟨S20, hG⟩ : ∃ z, z = zup S17 416 7 ((S17 416 7) - 1) := ⟨_, rfl⟩
        have h := h _ hG
        refine r_putI (kf := 7) (pc' := 49) hK dX12_readAtom_46 kX12_258 rfl (by decide) (by decide) rfl rfl (zok_int _) ?_
        refine r_st hG ?_
        refine z_aload_n (pc' := 50) dX12_readAtom_49 rfl rfl ?_
        refine z_bipush (x := 41) (pc' := 52) dX12_readAtom_50 (by decide) rfl ?_
        refine r_callI (Y := mX12_passesSign) (n := 1) (as := [.int 41]) (st := []) (pc' := 55) h hK dX12_readAtom_52 kX12_254 vX12_passesSign rfl rfl rfl (Nat.le_of_ble_eq_true rfl) (fun y23 S21 k22 h => ?_)
        exact z_zret (ty := .boolean) dX12_readAtom_55 rfl h.1 ⟨_, _, rfl, rfl, h.2⟩
      · have h := h.2 hc
        refine z_iconst (x := 0) (pc' := 38) dX12_readAtom_37 (by decide) rfl ?_
        exact z_zret (ty := .boolean) dX12_readAtom_38 rfl (by decide) ⟨_, _, rfl, rfl, h⟩
    · have h := h.2 hc
      refine z_iconst (x := 0) (pc' := 19) dX12_readAtom_18 (by decide) rfl ?_
      exact z_zret (ty := .boolean) dX12_readAtom_19 rfl (by decide) ⟨_, _, rfl, rfl, h⟩
def rwp_X12_readAtom_122 (E : ZE) (l : Launch) (d b : Nat) (A G : ZG) (Q : Option Value → ZS9 → Prop) (k : Nat) (x1 : Int32) (S : ZS9) : Prop :=
  ((9 ≤ x1 →
    zW E l mX12_readAtom d b A (rQ G Q) k 145 [some (.ref (zp 416 0)), some (.int x1), none, none] [] (zput G S)) ∧
  (¬ (9 ≤ x1) →
    scR E l mX12_fact d [.int x1] (fun y1 =>
    rcI E l mX12_isWord d [.ref y1] S k (fun y4 S2 k3 =>
    ((¬ y4 = 0 →
      zW E l mX12_readAtom d b A (rQ G Q) k3 145 [some (.ref (zp 416 0)), some (.int x1), none, none] [] (zput G S2)) ∧
    (¬ (¬ y4 = 0) →
      zW E l mX12_readAtom d b A (rQ G Q) k3 122 [some (.ref (zp 416 0)), some (.int (x1 + 1)), none, none] [] (zput G S2)))))))
theorem rwpt_X12_readAtom_122 {E : ZE} {l : Launch} {d b : Nat} {A G : ZG} {Q : Option Value → ZS9 → Prop} {k : Nat} {x1 : Int32} {S : ZS9} (hK : RK G) (h : rwp_X12_readAtom_122 E l d b A G Q k x1 S) : zW E l mX12_readAtom d b A (rQ G Q) k 122 [some (.ref (zp 416 0)), some (.int x1), none, none] [] (zput G S) := by
  unfold rwp_X12_readAtom_122 at h
  refine z_iload_n (pc' := 123) dX12_readAtom_122 rfl rfl ?_
  refine z_bipush (x := 9) (pc' := 125) dX12_readAtom_123 (by decide) rfl ?_
  refine z_icmp_ge (pt := 145) (pc' := 128) dX12_readAtom_125 (by decide) rfl (fun hc => ?_) (fun hc => ?_)
  · have h := h.1 hc
    exact z_dr (ls' := [some (.ref (zp 416 0)), some (.int x1), none, none]) ⟨rfl, rfl, trivial⟩ h
  · have h := h.2 hc
    refine z_aload_n (pc' := 129) dX12_readAtom_128 rfl rfl ?_
    refine z_iload_n (pc' := 130) dX12_readAtom_129 rfl rfl ?_
    refine r_callSR (Y := mX12_fact) (n := 1) (as := [.int x1]) (st := [.ref (zp 416 0)]) (pc' := 133) h dX12_readAtom_130 kX12_277 sX12_fact rfl rfl (Nat.le_of_ble_eq_true rfl) (fun y1 h => ?_)
    refine r_callI (Y := mX12_isWord) (n := 1) (as := [.ref y1]) (st := []) (pc' := 136) h hK dX12_readAtom_133 kX12_213 vX12_isWord rfl rfl rfl (Nat.le_of_ble_eq_true rfl) (fun y4 S2 k3 h => ?_)
    refine z_if_ne (pt := 145) (pc' := 139) dX12_readAtom_136 (by decide) rfl (fun hc => ?_) (fun hc => ?_)
    · have h := h.1 hc
      exact z_dr (ls' := [some (.ref (zp 416 0)), some (.int x1), none, none]) ⟨rfl, rfl, trivial⟩ h
    · have h := h.2 hc
      refine z_iinc (y := x1 + 1) (pc' := 142) dX12_readAtom_139 rfl (zinc_1 _) (by decide) rfl ?_
      refine z_goto (pc' := 122) dX12_readAtom_142 (by decide) ?_
      exact z_dr (ls' := [some (.ref (zp 416 0)), some (.int (x1 + 1)), none, none]) ⟨rfl, rfl, trivial⟩ h
def rwp_X12_readAtom_145 (E : ZE) (l : Launch) (d b : Nat) (A G : ZG) (Q : Option Value → ZS9 → Prop) (k : Nat) (x1 : Int32) (S : ZS9) : Prop :=
  ((¬ x1 = 9 →
    rcV E l mX12_blanksBetween d [] S k (fun S1 k2 =>
    rcI E l mX12_isAt d [.int 60, .int 60] S1 k2 (fun y5 S3 k4 =>
    ((y5 = 0 →
      rcI E l mX12_isAt d [.int 62, .int 62] S3 k4 (fun y8 S6 k7 =>
      ((y8 = 0 →
        (((0 : Int32) ≤ 0 →
          zW E l mX12_readAtom d b A (rQ G Q) k7 203 [some (.ref (zp 416 0)), some (.int x1), some (.int 0), none] [] (zput G S6)) ∧
        (¬ ((0 : Int32) ≤ 0) →
          ∀ S9, S9 = zup S6 416 4 ((S6 416 4) + 1) →
          zW E l mX12_readAtom d b A (rQ G Q) k7 203 [some (.ref (zp 416 0)), some (.int x1), some (.int 0), none] [] (zput G S9)))) ∧
      (¬ (y8 = 0) →
        (((2 : Int32) ≤ 0 →
          zW E l mX12_readAtom d b A (rQ G Q) k7 203 [some (.ref (zp 416 0)), some (.int x1), some (.int 2), none] [] (zput G S6)) ∧
        (¬ ((2 : Int32) ≤ 0) →
          ∀ S10, S10 = zup S6 416 4 ((S6 416 4) + 1) →
          zW E l mX12_readAtom d b A (rQ G Q) k7 203 [some (.ref (zp 416 0)), some (.int x1), some (.int 2), none] [] (zput G S10))))))) ∧
    (¬ (y5 = 0) →
      (((1 : Int32) ≤ 0 →
        zW E l mX12_readAtom d b A (rQ G Q) k4 203 [some (.ref (zp 416 0)), some (.int x1), some (.int 1), none] [] (zput G S3)) ∧
      (¬ ((1 : Int32) ≤ 0) →
        ∀ S11, S11 = zup S3 416 4 ((S3 416 4) + 1) →
        zW E l mX12_readAtom d b A (rQ G Q) k4 203 [some (.ref (zp 416 0)), some (.int x1), some (.int 1), none] [] (zput G S11)))))))) ∧
  (¬ (¬ x1 = 9) →
    Q (some (.int 0)) S))
theorem rwpt_X12_readAtom_145 {E : ZE} {l : Launch} {d b : Nat} {A G : ZG} {Q : Option Value → ZS9 → Prop} {k : Nat} {x1 : Int32} {S : ZS9} (hK : RK G) (h : rwp_X12_readAtom_145 E l d b A G Q k x1 S) : zW E l mX12_readAtom d b A (rQ G Q) k 145 [some (.ref (zp 416 0)), some (.int x1), none, none] [] (zput G S) := by
  unfold rwp_X12_readAtom_145 at h
  refine z_iload_n (pc' := 146) dX12_readAtom_145 rfl rfl ?_
  refine z_bipush (x := 9) (pc' := 148) dX12_readAtom_146 (by decide) rfl ?_
  refine z_icmp_ne (pt := 153) (pc' := 151) dX12_readAtom_148 (by decide) rfl (fun hc => ?_) (fun hc => ?_)
  · have h := h.1 hc
    refine z_aload_n (pc' := 154) dX12_readAtom_153 rfl rfl ?_
    refine r_callV (Y := mX12_blanksBetween) (n := 0) (as := []) (st := []) (pc' := 157) h hK dX12_readAtom_154 kX12_197 vX12_blanksBetween rfl rfl rfl (Nat.le_of_ble_eq_true rfl) (fun S1 k2 h => ?_)
    refine z_aload_n (pc' := 158) dX12_readAtom_157 rfl rfl ?_
    refine z_bipush (x := 60) (pc' := 160) dX12_readAtom_158 (by decide) rfl ?_
    refine z_bipush (x := 60) (pc' := 162) dX12_readAtom_160 (by decide) rfl ?_
    refine r_callI (Y := mX12_isAt) (n := 2) (as := [.int 60, .int 60]) (st := []) (pc' := 165) h hK dX12_readAtom_162 kX12_190 vX12_isAt rfl rfl rfl (Nat.le_of_ble_eq_true rfl) (fun y5 S3 k4 h => ?_)
    refine z_if_eq (pt := 172) (pc' := 168) dX12_readAtom_165 (by decide) rfl (fun hc => ?_) (fun hc => ?_)
    · have h := h.1 hc
      refine z_aload_n (pc' := 173) dX12_readAtom_172 rfl rfl ?_
      refine z_bipush (x := 62) (pc' := 175) dX12_readAtom_173 (by decide) rfl ?_
      refine z_bipush (x := 62) (pc' := 177) dX12_readAtom_175 (by decide) rfl ?_
      refine r_callI (Y := mX12_isAt) (n := 2) (as := [.int 62, .int 62]) (st := []) (pc' := 180) h hK dX12_readAtom_177 kX12_190 vX12_isAt rfl rfl rfl (Nat.le_of_ble_eq_true rfl) (fun y8 S6 k7 h => ?_)
      refine z_if_eq (pt := 187) (pc' := 183) dX12_readAtom_180 (by decide) rfl (fun hc => ?_) (fun hc => ?_)
      · have h := h.1 hc
        refine z_iconst (x := 0) (pc' := 188) dX12_readAtom_187 (by decide) rfl ?_
        refine z_istore_n (pc' := 189) dX12_readAtom_188 (by decide) rfl ?_
        refine z_iload_n (pc' := 190) dX12_readAtom_189 rfl rfl ?_
        refine z_if_le (pt := 203) (pc' := 193) dX12_readAtom_190 (by decide) rfl (fun hc => ?_) (fun hc => ?_)
        · have h := h.1 hc
          exact z_dr (ls' := [some (.ref (zp 416 0)), some (.int x1), some (.int 0), none]) ⟨rfl, rfl, rfl, trivial⟩ h
        · have h := h.2 hc
          refine z_aload_n (pc' := 194) dX12_readAtom_193 rfl rfl ?_
          refine z_dup (pc' := 195) dX12_readAtom_194 rfl rfl ?_
          refine r_getI (kf := 4) (pc' := 198) hK dX12_readAtom_195 kX12_187 rfl (by decide) (by decide) rfl ?_
          refine z_iconst (x := 1) (pc' := 199) dX12_readAtom_198 (by decide) rfl ?_
          refine z_iadd (pc' := 200) dX12_readAtom_199 rfl rfl ?_
          obtain ⟨S9, hG⟩ : ∃ z, z = zup S6 416 4 ((S6 416 4) + 1) := ⟨_, rfl⟩
          have h := h _ hG
          refine r_putI (kf := 4) (pc' := 203) hK dX12_readAtom_200 kX12_187 rfl (by decide) (by decide) rfl rfl (zok_int _) ?_
          refine r_st hG ?_
          exact z_dr (ls' := [some (.ref (zp 416 0)), some (.int x1), some (.int 0), none]) ⟨rfl, rfl, rfl, trivial⟩ h
      · have h := h.2 hc
        refine z_iconst (x := 2) (pc' := 184) dX12_readAtom_183 (by decide) rfl ?_
        refine z_goto (pc' := 188) dX12_readAtom_184 (by decide) ?_
        refine z_istore_n (pc' := 189) dX12_readAtom_188 (by decide) rfl ?_
        refine z_iload_n (pc' := 190) dX12_readAtom_189 rfl rfl ?_
        refine z_if_le (pt := 203) (pc' := 193) dX12_readAtom_190 (by decide) rfl (fun hc => ?_) (fun hc => ?_)
        · have h := h.1 hc
          exact z_dr (ls' := [some (.ref (zp 416 0)), some (.int x1), some (.int 2), none]) ⟨rfl, rfl, rfl, trivial⟩ h
        · have h := h.2 hc
          refine z_aload_n (pc' := 194) dX12_readAtom_193 rfl rfl ?_
          refine z_dup (pc' := 195) dX12_readAtom_194 rfl rfl ?_
          refine r_getI (kf := 4) (pc' := 198) hK dX12_readAtom_195 kX12_187 rfl (by decide) (by decide) rfl ?_
          refine z_iconst (x := 1) (pc' := 199) dX12_readAtom_198 (by decide) rfl ?_
          refine z_iadd (pc' := 200) dX12_readAtom_199 rfl rfl ?_
          obtain ⟨S10, hG⟩ : ∃ z, z = zup S6 416 4 ((S6 416 4) + 1) := ⟨_, rfl⟩
          have h := h _ hG
          refine r_putI (kf := 4) (pc' := 203) hK dX12_readAtom_200 kX12_187 rfl (by decide) (by decide) rfl rfl (zok_int _) ?_
          refine r_st hG ?_
          exact z_dr (ls' := [some (.ref (zp 416 0)), some (.int x1), some (.int 2), none]) ⟨rfl, rfl, rfl, trivial⟩ h
    · have h := h.2 hc
      refine z_iconst (x := 1) (pc' := 169) dX12_readAtom_168 (by decide) rfl ?_
      refine z_goto (pc' := 188) dX12_readAtom_169 (by decide) ?_
      refine z_istore_n (pc' := 189) dX12_readAtom_188 (by decide) rfl ?_
      refine z_iload_n (pc' := 190) dX12_readAtom_189 rfl rfl ?_
      refine z_if_le (pt := 203) (pc' := 193) dX12_readAtom_190 (by decide) rfl (fun hc => ?_) (fun hc => ?_)
      · have h := h.1 hc
        exact z_dr (ls' := [some (.ref (zp 416 0)), some (.int x1), some (.int 1), none]) ⟨rfl, rfl, rfl, trivial⟩ h
      · have h := h.2 hc
        refine z_aload_n (pc' := 194) dX12_readAtom_193 rfl rfl ?_
        refine z_dup (pc' := 195) dX12_readAtom_194 rfl rfl ?_
        refine r_getI (kf := 4) (pc' := 198) hK dX12_readAtom_195 kX12_187 rfl (by decide) (by decide) rfl ?_
        refine z_iconst (x := 1) (pc' := 199) dX12_readAtom_198 (by decide) rfl ?_
        refine z_iadd (pc' := 200) dX12_readAtom_199 rfl rfl ?_
        obtain ⟨S11, hG⟩ : ∃ z, z = zup S3 416 4 ((S3 416 4) + 1) := ⟨_, rfl⟩
        have h := h _ hG
        refine r_putI (kf := 4) (pc' := 203) hK dX12_readAtom_200 kX12_187 rfl (by decide) (by decide) rfl rfl (zok_int _) ?_
        refine r_st hG ?_
        exact z_dr (ls' := [some (.ref (zp 416 0)), some (.int x1), some (.int 1), none]) ⟨rfl, rfl, rfl, trivial⟩ h
  · have h := h.2 hc
    refine z_iconst (x := 0) (pc' := 152) dX12_readAtom_151 (by decide) rfl ?_
    exact z_zret (ty := .boolean) dX12_readAtom_152 rfl (by decide) ⟨_, _, rfl, rfl, h⟩
def rwp_X12_readAtom_203 (E : ZE) (l : Launch) (d b : Nat) (A G : ZG) (Q : Option Value → ZS9 → Prop) (k : Nat) (x1 : Int32) (x2 : Int32) (S : ZS9) : Prop :=
  ((x2 ≤ 0 →
    ((0 ≤ (0 : Int32) →
      rcV E l mX12_adds d [.int x1, .int x2, .int 0] S k (fun S1 k2 =>
      Q (some (.int 1)) S1)) ∧
    (¬ (0 ≤ (0 : Int32)) →
      Q (some (.int 0)) S))) ∧
  (¬ (x2 ≤ 0) →
    rcI E l mX12_number d [] S k (fun y5 S3 k4 =>
    ((0 ≤ y5 →
      rcV E l mX12_adds d [.int x1, .int x2, .int y5] S3 k4 (fun S6 k7 =>
      Q (some (.int 1)) S6)) ∧
    (¬ (0 ≤ y5) →
      Q (some (.int 0)) S3)))))
theorem rwpt_X12_readAtom_203 {E : ZE} {l : Launch} {d b : Nat} {A G : ZG} {Q : Option Value → ZS9 → Prop} {k : Nat} {x1 : Int32} {x2 : Int32} {S : ZS9} (hK : RK G) (h : rwp_X12_readAtom_203 E l d b A G Q k x1 x2 S) : zW E l mX12_readAtom d b A (rQ G Q) k 203 [some (.ref (zp 416 0)), some (.int x1), some (.int x2), none] [] (zput G S) := by
  unfold rwp_X12_readAtom_203 at h
  refine z_iload_n (pc' := 204) dX12_readAtom_203 rfl rfl ?_
  refine z_if_le (pt := 214) (pc' := 207) dX12_readAtom_204 (by decide) rfl (fun hc => ?_) (fun hc => ?_)
  · have h := h.1 hc
    refine z_iconst (x := 0) (pc' := 215) dX12_readAtom_214 (by decide) rfl ?_
    refine z_istore_n (pc' := 216) dX12_readAtom_215 (by decide) rfl ?_
    refine z_iload_n (pc' := 217) dX12_readAtom_216 rfl rfl ?_
    refine z_if_ge (pt := 222) (pc' := 220) dX12_readAtom_217 (by decide) rfl (fun hc => ?_) (fun hc => ?_)
    · have h := h.1 hc
      refine z_aload_n (pc' := 223) dX12_readAtom_222 rfl rfl ?_
      refine z_iload_n (pc' := 224) dX12_readAtom_223 rfl rfl ?_
      refine z_iload_n (pc' := 225) dX12_readAtom_224 rfl rfl ?_
      refine z_iload_n (pc' := 226) dX12_readAtom_225 rfl rfl ?_
      refine r_callV (Y := mX12_adds) (n := 3) (as := [.int x1, .int x2, .int 0]) (st := []) (pc' := 229) h hK dX12_readAtom_226 kX12_273 vX12_adds rfl rfl rfl (Nat.le_of_ble_eq_true rfl) (fun S1 k2 h => ?_)
      refine z_iconst (x := 1) (pc' := 230) dX12_readAtom_229 (by decide) rfl ?_
      exact z_zret (ty := .boolean) dX12_readAtom_230 rfl (by decide) ⟨_, _, rfl, rfl, h⟩
    · have h := h.2 hc
      refine z_iconst (x := 0) (pc' := 221) dX12_readAtom_220 (by decide) rfl ?_
      exact z_zret (ty := .boolean) dX12_readAtom_221 rfl (by decide) ⟨_, _, rfl, rfl, h⟩
  · have h := h.2 hc
    refine z_aload_n (pc' := 208) dX12_readAtom_207 rfl rfl ?_
    refine r_callI (Y := mX12_number) (n := 0) (as := []) (st := []) (pc' := 211) h hK dX12_readAtom_208 kX12_281 vX12_number rfl rfl rfl (Nat.le_of_ble_eq_true rfl) (fun y5 S3 k4 h => ?_)
    refine z_goto (pc' := 215) dX12_readAtom_211 (by decide) ?_
    refine z_istore_n (pc' := 216) dX12_readAtom_215 (by decide) rfl ?_
    refine z_iload_n (pc' := 217) dX12_readAtom_216 rfl rfl ?_
    refine z_if_ge (pt := 222) (pc' := 220) dX12_readAtom_217 (by decide) rfl (fun hc => ?_) (fun hc => ?_)
    · have h := h.1 hc
      refine z_aload_n (pc' := 223) dX12_readAtom_222 rfl rfl ?_
      refine z_iload_n (pc' := 224) dX12_readAtom_223 rfl rfl ?_
      refine z_iload_n (pc' := 225) dX12_readAtom_224 rfl rfl ?_
      refine z_iload_n (pc' := 226) dX12_readAtom_225 rfl rfl ?_
      refine r_callV (Y := mX12_adds) (n := 3) (as := [.int x1, .int x2, .int y5]) (st := []) (pc' := 229) h hK dX12_readAtom_226 kX12_273 vX12_adds rfl rfl rfl (Nat.le_of_ble_eq_true rfl) (fun S6 k7 h => ?_)
      refine z_iconst (x := 1) (pc' := 230) dX12_readAtom_229 (by decide) rfl ?_
      exact z_zret (ty := .boolean) dX12_readAtom_230 rfl (by decide) ⟨_, _, rfl, rfl, h⟩
    · have h := h.2 hc
      refine z_iconst (x := 0) (pc' := 221) dX12_readAtom_220 (by decide) rfl ?_
      exact z_zret (ty := .boolean) dX12_readAtom_221 rfl (by decide) ⟨_, _, rfl, rfl, h⟩
def rwp_X12_readClause_0 (E : ZE) (l : Launch) (d b : Nat) (A G : ZG) (Q : Option Value → ZS9 → Prop) (k : Nat) (x1 : Int32) (S : ZS9) : Prop :=
  rcV E l mX12_word d [] S k (fun S1 k2 =>
  ((¬ x1 = 16 →
    rcI E l mX12_isWord d [.ref (zp 1000 9)] S1 k2 (fun y5 S3 k4 =>
    ((y5 = 0 →
      rcI E l mX12_isWord d [.ref (zp 1000 10)] S3 k4 (fun y8 S6 k7 =>
      ((y8 = 0 →
        rcI E l mX12_isWord d [.ref (zp 1000 11)] S6 k7 (fun y11 S9 k10 =>
        ((y11 = 0 →
          rcI E l mX12_isWord d [.ref (zp 1000 12)] S9 k10 (fun y14 S12 k13 =>
          ((y14 = 0 →
            rcI E l mX12_isWord d [.ref (zp 1000 13)] S12 k13 (fun y17 S15 k16 =>
            ((y17 = 0 →
              rcI E l mX12_isWord d [.ref (zp 1000 14)] S15 k16 (fun y20 S18 k19 =>
              ((y20 = 0 →
                zW E l mX12_readClause d b A (rQ G Q) k19 108 [some (.ref (zp 416 0)), none, some (.int (192 + x1)), none] [.int (-1), .int (192 + x1), .ref (zp 1112 0)] (zput G S18)) ∧
              (¬ (y20 = 0) →
                zW E l mX12_readClause d b A (rQ G Q) k19 108 [some (.ref (zp 416 0)), none, some (.int (192 + x1)), none] [.int 5, .int (192 + x1), .ref (zp 1112 0)] (zput G S18))))) ∧
            (¬ (y17 = 0) →
              zW E l mX12_readClause d b A (rQ G Q) k16 108 [some (.ref (zp 416 0)), none, some (.int (192 + x1)), none] [.int 4, .int (192 + x1), .ref (zp 1112 0)] (zput G S15))))) ∧
          (¬ (y14 = 0) →
            zW E l mX12_readClause d b A (rQ G Q) k13 108 [some (.ref (zp 416 0)), none, some (.int (192 + x1)), none] [.int 3, .int (192 + x1), .ref (zp 1112 0)] (zput G S12))))) ∧
        (¬ (y11 = 0) →
          zW E l mX12_readClause d b A (rQ G Q) k10 108 [some (.ref (zp 416 0)), none, some (.int (192 + x1)), none] [.int 2, .int (192 + x1), .ref (zp 1112 0)] (zput G S9))))) ∧
      (¬ (y8 = 0) →
        zW E l mX12_readClause d b A (rQ G Q) k7 108 [some (.ref (zp 416 0)), none, some (.int (192 + x1)), none] [.int 1, .int (192 + x1), .ref (zp 1112 0)] (zput G S6))))) ∧
    (¬ (y5 = 0) →
      zW E l mX12_readClause d b A (rQ G Q) k4 108 [some (.ref (zp 416 0)), none, some (.int (192 + x1)), none] [.int 0, .int (192 + x1), .ref (zp 1112 0)] (zput G S3))))) ∧
  (¬ (¬ x1 = 16) →
    Q (some (.int 0)) S1)))
theorem rwpt_X12_readClause_0 {E : ZE} {l : Launch} {d b : Nat} {A G : ZG} {Q : Option Value → ZS9 → Prop} {k : Nat} {x1 : Int32} {S : ZS9} (hK : RK G) (h : rwp_X12_readClause_0 E l d b A G Q k x1 S) : zW E l mX12_readClause d b A (rQ G Q) k 0 [some (.ref (zp 416 0)), some (.int x1), none, none] [] (zput G S) := by
  unfold rwp_X12_readClause_0 at h
  refine z_aload_n (pc' := 1) dX12_readClause_0 rfl rfl ?_
  refine r_callV (Y := mX12_word) (n := 0) (as := []) (st := []) (pc' := 4) h hK dX12_readClause_1 kX12_210 vX12_word rfl rfl rfl (Nat.le_of_ble_eq_true rfl) (fun S1 k2 h => ?_)
  refine z_iload_n (pc' := 5) dX12_readClause_4 rfl rfl ?_
  refine z_bipush (x := 16) (pc' := 7) dX12_readClause_5 (by decide) rfl ?_
  refine z_icmp_ne (pt := 12) (pc' := 10) dX12_readClause_7 (by decide) rfl (fun hc => ?_) (fun hc => ?_)
  · have h := h.1 hc
    refine z_sipush (x := 192) (pc' := 15) dX12_readClause_12 (by decide) rfl ?_
    refine z_iload_n (pc' := 16) dX12_readClause_15 rfl rfl ?_
    refine z_iadd (pc' := 17) dX12_readClause_16 rfl rfl ?_
    refine z_istore_n (pc' := 18) dX12_readClause_17 (by decide) rfl ?_
    refine z_aload_n (pc' := 19) dX12_readClause_18 rfl rfl ?_
    refine r_getA (kf := 12) (pc' := 22) hK rt_12 dX12_readClause_19 kX12_27 rfl (by decide) (by decide) rfl ?_
    refine z_iload_n (pc' := 23) dX12_readClause_22 rfl rfl ?_
    refine z_aload_n (pc' := 24) dX12_readClause_23 rfl rfl ?_
    refine z_ldcSW (n := 9) (pc' := 27) (own := RX12) (tx := "need") rfl (by decide) dX12_readClause_24 rfl ?_
    refine r_callI (Y := mX12_isWord) (n := 1) (as := [.ref (zp 1000 9)]) (st := [.int (192 + x1), .ref (zp 1112 0)]) (pc' := 30) h hK dX12_readClause_27 kX12_213 vX12_isWord rfl rfl rfl (Nat.le_of_ble_eq_true rfl) (fun y5 S3 k4 h => ?_)
    refine z_if_eq (pt := 37) (pc' := 33) dX12_readClause_30 (by decide) rfl (fun hc => ?_) (fun hc => ?_)
    · have h := h.1 hc
      refine z_aload_n (pc' := 38) dX12_readClause_37 rfl rfl ?_
      refine z_ldcSW (n := 10) (pc' := 41) (own := RX12) (tx := "fee") rfl (by decide) dX12_readClause_38 rfl ?_
      refine r_callI (Y := mX12_isWord) (n := 1) (as := [.ref (zp 1000 10)]) (st := [.int (192 + x1), .ref (zp 1112 0)]) (pc' := 44) h hK dX12_readClause_41 kX12_213 vX12_isWord rfl rfl rfl (Nat.le_of_ble_eq_true rfl) (fun y8 S6 k7 h => ?_)
      refine z_if_eq (pt := 51) (pc' := 47) dX12_readClause_44 (by decide) rfl (fun hc => ?_) (fun hc => ?_)
      · have h := h.1 hc
        refine z_aload_n (pc' := 52) dX12_readClause_51 rfl rfl ?_
        refine z_ldcSW (n := 11) (pc' := 55) (own := RX12) (tx := "years") rfl (by decide) dX12_readClause_52 rfl ?_
        refine r_callI (Y := mX12_isWord) (n := 1) (as := [.ref (zp 1000 11)]) (st := [.int (192 + x1), .ref (zp 1112 0)]) (pc' := 58) h hK dX12_readClause_55 kX12_213 vX12_isWord rfl rfl rfl (Nat.le_of_ble_eq_true rfl) (fun y11 S9 k10 h => ?_)
        refine z_if_eq (pt := 65) (pc' := 61) dX12_readClause_58 (by decide) rfl (fun hc => ?_) (fun hc => ?_)
        · have h := h.1 hc
          refine z_aload_n (pc' := 66) dX12_readClause_65 rfl rfl ?_
          refine z_ldcSW (n := 12) (pc' := 69) (own := RX12) (tx := "risk") rfl (by decide) dX12_readClause_66 rfl ?_
          refine r_callI (Y := mX12_isWord) (n := 1) (as := [.ref (zp 1000 12)]) (st := [.int (192 + x1), .ref (zp 1112 0)]) (pc' := 72) h hK dX12_readClause_69 kX12_213 vX12_isWord rfl rfl rfl (Nat.le_of_ble_eq_true rfl) (fun y14 S12 k13 h => ?_)
          refine z_if_eq (pt := 79) (pc' := 75) dX12_readClause_72 (by decide) rfl (fun hc => ?_) (fun hc => ?_)
          · have h := h.1 hc
            refine z_aload_n (pc' := 80) dX12_readClause_79 rfl rfl ?_
            refine z_ldcSW (n := 13) (pc' := 83) (own := RX12) (tx := "see") rfl (by decide) dX12_readClause_80 rfl ?_
            refine r_callI (Y := mX12_isWord) (n := 1) (as := [.ref (zp 1000 13)]) (st := [.int (192 + x1), .ref (zp 1112 0)]) (pc' := 86) h hK dX12_readClause_83 kX12_213 vX12_isWord rfl rfl rfl (Nat.le_of_ble_eq_true rfl) (fun y17 S15 k16 h => ?_)
            refine z_if_eq (pt := 93) (pc' := 89) dX12_readClause_86 (by decide) rfl (fun hc => ?_) (fun hc => ?_)
            · have h := h.1 hc
              refine z_aload_n (pc' := 94) dX12_readClause_93 rfl rfl ?_
              refine z_ldcSW (n := 14) (pc' := 97) (own := RX12) (tx := "back") rfl (by decide) dX12_readClause_94 rfl ?_
              refine r_callI (Y := mX12_isWord) (n := 1) (as := [.ref (zp 1000 14)]) (st := [.int (192 + x1), .ref (zp 1112 0)]) (pc' := 100) h hK dX12_readClause_97 kX12_213 vX12_isWord rfl rfl rfl (Nat.le_of_ble_eq_true rfl) (fun y20 S18 k19 h => ?_)
              refine z_if_eq (pt := 107) (pc' := 103) dX12_readClause_100 (by decide) rfl (fun hc => ?_) (fun hc => ?_)
              · have h := h.1 hc
                refine z_iconst (x := (-1)) (pc' := 108) dX12_readClause_107 (by decide) rfl ?_
                exact z_dr (ls' := [some (.ref (zp 416 0)), none, some (.int (192 + x1)), none]) ⟨rfl, rfl, trivial⟩ h
              · have h := h.2 hc
                refine z_iconst (x := 5) (pc' := 104) dX12_readClause_103 (by decide) rfl ?_
                refine z_goto (pc' := 108) dX12_readClause_104 (by decide) ?_
                exact z_dr (ls' := [some (.ref (zp 416 0)), none, some (.int (192 + x1)), none]) ⟨rfl, rfl, trivial⟩ h
            · have h := h.2 hc
              refine z_iconst (x := 4) (pc' := 90) dX12_readClause_89 (by decide) rfl ?_
              refine z_goto (pc' := 108) dX12_readClause_90 (by decide) ?_
              exact z_dr (ls' := [some (.ref (zp 416 0)), none, some (.int (192 + x1)), none]) ⟨rfl, rfl, trivial⟩ h
          · have h := h.2 hc
            refine z_iconst (x := 3) (pc' := 76) dX12_readClause_75 (by decide) rfl ?_
            refine z_goto (pc' := 108) dX12_readClause_76 (by decide) ?_
            exact z_dr (ls' := [some (.ref (zp 416 0)), none, some (.int (192 + x1)), none]) ⟨rfl, rfl, trivial⟩ h
        · have h := h.2 hc
          refine z_iconst (x := 2) (pc' := 62) dX12_readClause_61 (by decide) rfl ?_
          refine z_goto (pc' := 108) dX12_readClause_62 (by decide) ?_
          exact z_dr (ls' := [some (.ref (zp 416 0)), none, some (.int (192 + x1)), none]) ⟨rfl, rfl, trivial⟩ h
      · have h := h.2 hc
        refine z_iconst (x := 1) (pc' := 48) dX12_readClause_47 (by decide) rfl ?_
        refine z_goto (pc' := 108) dX12_readClause_48 (by decide) ?_
        exact z_dr (ls' := [some (.ref (zp 416 0)), none, some (.int (192 + x1)), none]) ⟨rfl, rfl, trivial⟩ h
    · have h := h.2 hc
      refine z_iconst (x := 0) (pc' := 34) dX12_readClause_33 (by decide) rfl ?_
      refine z_goto (pc' := 108) dX12_readClause_34 (by decide) ?_
      exact z_dr (ls' := [some (.ref (zp 416 0)), none, some (.int (192 + x1)), none]) ⟨rfl, rfl, trivial⟩ h
  · have h := h.2 hc
    refine z_iconst (x := 0) (pc' := 11) dX12_readClause_10 (by decide) rfl ?_
    exact z_zret (ty := .boolean) dX12_readClause_11 rfl (by decide) ⟨_, _, rfl, rfl, h⟩
def rwp_X12_readClause_108 (E : ZE) (l : Launch) (d b : Nat) (A G : ZG) (Q : Option Value → ZS9 → Prop) (k : Nat) (x2 : Int32) (s0 : Int32) (s1 : Int32) (S : ZS9) : Prop :=
  vp_in s1 208 ∧
  ∀ S1, S1 = zup S 1112 s1.toNatClampNeg s0 →
  vp_in x2 208 ∧
  ((0 ≤ (S1 1112 x2.toNatClampNeg) →
    vp_in x2 208 ∧
    ((¬ (S1 1112 x2.toNatClampNeg) = 0 →
      vp_in x2 208 ∧
      (((S1 1112 x2.toNatClampNeg) = 4 →
        zW E l mX12_readClause d b A (rQ G Q) k 209 [some (.ref (zp 416 0)), none, some (.int x2), none] [] (zput G S1)) ∧
      (¬ ((S1 1112 x2.toNatClampNeg) = 4) →
        rcI E l mX12_number d [] S1 k (fun y4 S2 k3 =>
        vp_in x2 208 ∧
        ∀ S5, S5 = zup S2 1113 x2.toNatClampNeg y4 →
        vp_in x2 208 ∧
        ((0 ≤ (S5 1113 x2.toNatClampNeg) →
          zW E l mX12_readClause d b A (rQ G Q) k3 209 [some (.ref (zp 416 0)), none, some (.int x2), none] [] (zput G S5)) ∧
        (¬ (0 ≤ (S5 1113 x2.toNatClampNeg)) →
          Q (some (.int 0)) S5)))))) ∧
    (¬ (¬ (S1 1112 x2.toNatClampNeg) = 0) →
      rcV E l mX12_word d [] S1 k (fun S6 k7 =>
      zW E l mX12_readClause d b A (rQ G Q) k7 135 [some (.ref (zp 416 0)), none, some (.int x2), some (.int 0)] [] (zput G S6))))) ∧
  (¬ (0 ≤ (S1 1112 x2.toNatClampNeg)) →
    Q (some (.int 0)) S1))
theorem rwpt_X12_readClause_108 {E : ZE} {l : Launch} {d b : Nat} {A G : ZG} {Q : Option Value → ZS9 → Prop} {k : Nat} {x2 : Int32} {s0 : Int32} {s1 : Int32} {S : ZS9} (hK : RK G) (h : rwp_X12_readClause_108 E l d b A G Q k x2 s0 s1 S) : zW E l mX12_readClause d b A (rQ G Q) k 108 [some (.ref (zp 416 0)), none, some (.int x2), none] [.int s0, .int s1, .ref (zp 1112 0)] (zput G S) := by
  unfold rwp_X12_readClause_108 at h
  obtain ⟨h1, h⟩ := h
  obtain ⟨S1, hG⟩ : ∃ z, z = zup S 1112 s1.toNatClampNeg s0 := ⟨_, rfl⟩
  have h := h _ hG
  refine r_iast (pc' := 109) hK rt_12 rfl dX12_readClause_108 rfl h1  ?_
  refine r_st hG ?_
  refine z_aload_n (pc' := 110) dX12_readClause_109 rfl rfl ?_
  refine r_getA (kf := 12) (pc' := 113) hK rt_12 dX12_readClause_110 kX12_27 rfl (by decide) (by decide) rfl ?_
  refine z_iload_n (pc' := 114) dX12_readClause_113 rfl rfl ?_
  obtain ⟨h1, h⟩ := h
  refine r_iald (pc' := 115) hK rt_12 rfl dX12_readClause_114 rfl h1 ?_
  refine z_if_ge (pt := 120) (pc' := 118) dX12_readClause_115 (by decide) rfl (fun hc => ?_) (fun hc => ?_)
  · have h := h.1 hc
    refine z_aload_n (pc' := 121) dX12_readClause_120 rfl rfl ?_
    refine r_getA (kf := 12) (pc' := 124) hK rt_12 dX12_readClause_121 kX12_27 rfl (by decide) (by decide) rfl ?_
    refine z_iload_n (pc' := 125) dX12_readClause_124 rfl rfl ?_
    obtain ⟨h1, h⟩ := h
    refine r_iald (pc' := 126) hK rt_12 rfl dX12_readClause_125 rfl h1 ?_
    refine z_if_ne (pt := 178) (pc' := 129) dX12_readClause_126 (by decide) rfl (fun hc => ?_) (fun hc => ?_)
    · have h := h.1 hc
      refine z_aload_n (pc' := 179) dX12_readClause_178 rfl rfl ?_
      refine r_getA (kf := 12) (pc' := 182) hK rt_12 dX12_readClause_179 kX12_27 rfl (by decide) (by decide) rfl ?_
      refine z_iload_n (pc' := 183) dX12_readClause_182 rfl rfl ?_
      obtain ⟨h1, h⟩ := h
      refine r_iald (pc' := 184) hK rt_12 rfl dX12_readClause_183 rfl h1 ?_
      refine z_iconst (x := 4) (pc' := 185) dX12_readClause_184 (by decide) rfl ?_
      refine z_icmp_eq (pt := 209) (pc' := 188) dX12_readClause_185 (by decide) rfl (fun hc => ?_) (fun hc => ?_)
      · have h := h.1 hc
        exact z_dr (ls' := [some (.ref (zp 416 0)), none, some (.int x2), none]) ⟨rfl, rfl, trivial⟩ h
      · have h := h.2 hc
        refine z_aload_n (pc' := 189) dX12_readClause_188 rfl rfl ?_
        refine r_getA (kf := 13) (pc' := 192) hK rt_13 dX12_readClause_189 kX12_30 rfl (by decide) (by decide) rfl ?_
        refine z_iload_n (pc' := 193) dX12_readClause_192 rfl rfl ?_
        refine z_aload_n (pc' := 194) dX12_readClause_193 rfl rfl ?_
        refine r_callI (Y := mX12_number) (n := 0) (as := []) (st := [.int x2, .ref (zp 1113 0)]) (pc' := 197) h hK dX12_readClause_194 kX12_281 vX12_number rfl rfl rfl (Nat.le_of_ble_eq_true rfl) (fun y4 S2 k3 h => ?_)
        obtain ⟨h1, h⟩ := h
        obtain ⟨S5, hG⟩ : ∃ z, z = zup S2 1113 x2.toNatClampNeg y4 := ⟨_, rfl⟩
        have h := h _ hG
        refine r_iast (pc' := 198) hK rt_13 rfl dX12_readClause_197 rfl h1  ?_
        refine r_st hG ?_
        refine z_aload_n (pc' := 199) dX12_readClause_198 rfl rfl ?_
        refine r_getA (kf := 13) (pc' := 202) hK rt_13 dX12_readClause_199 kX12_30 rfl (by decide) (by decide) rfl ?_
        refine z_iload_n (pc' := 203) dX12_readClause_202 rfl rfl ?_
        obtain ⟨h1, h⟩ := h
        refine r_iald (pc' := 204) hK rt_13 rfl dX12_readClause_203 rfl h1 ?_
        refine z_if_ge (pt := 209) (pc' := 207) dX12_readClause_204 (by decide) rfl (fun hc => ?_) (fun hc => ?_)
        · have h := h.1 hc
          exact z_dr (ls' := [some (.ref (zp 416 0)), none, some (.int x2), none]) ⟨rfl, rfl, trivial⟩ h
        · have h := h.2 hc
          refine z_iconst (x := 0) (pc' := 208) dX12_readClause_207 (by decide) rfl ?_
          exact z_zret (ty := .boolean) dX12_readClause_208 rfl (by decide) ⟨_, _, rfl, rfl, h⟩
    · have h := h.2 hc
      refine z_aload_n (pc' := 130) dX12_readClause_129 rfl rfl ?_
      refine r_callV (Y := mX12_word) (n := 0) (as := []) (st := []) (pc' := 133) h hK dX12_readClause_130 kX12_210 vX12_word rfl rfl rfl (Nat.le_of_ble_eq_true rfl) (fun S6 k7 h => ?_)
      refine z_iconst (x := 0) (pc' := 134) dX12_readClause_133 (by decide) rfl ?_
      refine z_istore_n (pc' := 135) dX12_readClause_134 (by decide) rfl ?_
      exact z_dr (ls' := [some (.ref (zp 416 0)), none, some (.int x2), some (.int 0)]) ⟨rfl, rfl, rfl, trivial⟩ h
  · have h := h.2 hc
    refine z_iconst (x := 0) (pc' := 119) dX12_readClause_118 (by decide) rfl ?_
    exact z_zret (ty := .boolean) dX12_readClause_119 rfl (by decide) ⟨_, _, rfl, rfl, h⟩
def rwp_X12_readClause_135 (E : ZE) (l : Launch) (d b : Nat) (A G : ZG) (Q : Option Value → ZS9 → Prop) (k : Nat) (x2 : Int32) (x3 : Int32) (S : ZS9) : Prop :=
  ((8 ≤ x3 →
    ((¬ x3 = 8 →
      vp_in x2 208 ∧
      ∀ S1, S1 = zup S 1113 x2.toNatClampNeg (1 <<< (x3 &&& 31)) →
      zW E l mX12_readClause d b A (rQ G Q) k 209 [some (.ref (zp 416 0)), none, some (.int x2), none] [] (zput G S1)) ∧
    (¬ (¬ x3 = 8) →
      Q (some (.int 0)) S))) ∧
  (¬ (8 ≤ x3) →
    scR E l mX12_item d [.int x3] (fun y2 =>
    rcI E l mX12_isWord d [.ref y2] S k (fun y5 S3 k4 =>
    ((¬ y5 = 0 →
      ((¬ x3 = 8 →
        vp_in x2 208 ∧
        ∀ S6, S6 = zup S3 1113 x2.toNatClampNeg (1 <<< (x3 &&& 31)) →
        zW E l mX12_readClause d b A (rQ G Q) k4 209 [some (.ref (zp 416 0)), none, some (.int x2), none] [] (zput G S6)) ∧
      (¬ (¬ x3 = 8) →
        Q (some (.int 0)) S3))) ∧
    (¬ (¬ y5 = 0) →
      zW E l mX12_readClause d b A (rQ G Q) k4 135 [some (.ref (zp 416 0)), none, some (.int x2), some (.int (x3 + 1))] [] (zput G S3)))))))
theorem rwpt_X12_readClause_135 {E : ZE} {l : Launch} {d b : Nat} {A G : ZG} {Q : Option Value → ZS9 → Prop} {k : Nat} {x2 : Int32} {x3 : Int32} {S : ZS9} (hK : RK G) (h : rwp_X12_readClause_135 E l d b A G Q k x2 x3 S) : zW E l mX12_readClause d b A (rQ G Q) k 135 [some (.ref (zp 416 0)), none, some (.int x2), some (.int x3)] [] (zput G S) := by
  unfold rwp_X12_readClause_135 at h
  refine z_iload_n (pc' := 136) dX12_readClause_135 rfl rfl ?_
  refine z_bipush (x := 8) (pc' := 138) dX12_readClause_136 (by decide) rfl ?_
  refine z_icmp_ge (pt := 158) (pc' := 141) dX12_readClause_138 (by decide) rfl (fun hc => ?_) (fun hc => ?_)
  · have h := h.1 hc
    refine z_iload_n (pc' := 159) dX12_readClause_158 rfl rfl ?_
    refine z_bipush (x := 8) (pc' := 161) dX12_readClause_159 (by decide) rfl ?_
    refine z_icmp_ne (pt := 166) (pc' := 164) dX12_readClause_161 (by decide) rfl (fun hc => ?_) (fun hc => ?_)
    · have h := h.1 hc
      refine z_aload_n (pc' := 167) dX12_readClause_166 rfl rfl ?_
      refine r_getA (kf := 13) (pc' := 170) hK rt_13 dX12_readClause_167 kX12_30 rfl (by decide) (by decide) rfl ?_
      refine z_iload_n (pc' := 171) dX12_readClause_170 rfl rfl ?_
      refine z_iconst (x := 1) (pc' := 172) dX12_readClause_171 (by decide) rfl ?_
      refine z_iload_n (pc' := 173) dX12_readClause_172 rfl rfl ?_
      refine z_ishl (pc' := 174) dX12_readClause_173 rfl rfl ?_
      obtain ⟨h1, h⟩ := h
      obtain ⟨S1, hG⟩ : ∃ z, z = zup S 1113 x2.toNatClampNeg (1 <<< (x3 &&& 31)) := ⟨_, rfl⟩
      have h := h _ hG
      refine r_iast (pc' := 175) hK rt_13 rfl dX12_readClause_174 rfl h1  ?_
      refine r_st hG ?_
      refine z_goto (pc' := 209) dX12_readClause_175 (by decide) ?_
      exact z_dr (ls' := [some (.ref (zp 416 0)), none, some (.int x2), none]) ⟨rfl, rfl, trivial⟩ h
    · have h := h.2 hc
      refine z_iconst (x := 0) (pc' := 165) dX12_readClause_164 (by decide) rfl ?_
      exact z_zret (ty := .boolean) dX12_readClause_165 rfl (by decide) ⟨_, _, rfl, rfl, h⟩
  · have h := h.2 hc
    refine z_aload_n (pc' := 142) dX12_readClause_141 rfl rfl ?_
    refine z_iload_n (pc' := 143) dX12_readClause_142 rfl rfl ?_
    refine r_callSR (Y := mX12_item) (n := 1) (as := [.int x3]) (st := [.ref (zp 416 0)]) (pc' := 146) h dX12_readClause_143 kX12_303 sX12_item rfl rfl (Nat.le_of_ble_eq_true rfl) (fun y2 h => ?_)
    refine r_callI (Y := mX12_isWord) (n := 1) (as := [.ref y2]) (st := []) (pc' := 149) h hK dX12_readClause_146 kX12_213 vX12_isWord rfl rfl rfl (Nat.le_of_ble_eq_true rfl) (fun y5 S3 k4 h => ?_)
    refine z_if_ne (pt := 158) (pc' := 152) dX12_readClause_149 (by decide) rfl (fun hc => ?_) (fun hc => ?_)
    · have h := h.1 hc
      refine z_iload_n (pc' := 159) dX12_readClause_158 rfl rfl ?_
      refine z_bipush (x := 8) (pc' := 161) dX12_readClause_159 (by decide) rfl ?_
      refine z_icmp_ne (pt := 166) (pc' := 164) dX12_readClause_161 (by decide) rfl (fun hc => ?_) (fun hc => ?_)
      · have h := h.1 hc
        refine z_aload_n (pc' := 167) dX12_readClause_166 rfl rfl ?_
        refine r_getA (kf := 13) (pc' := 170) hK rt_13 dX12_readClause_167 kX12_30 rfl (by decide) (by decide) rfl ?_
        refine z_iload_n (pc' := 171) dX12_readClause_170 rfl rfl ?_
        refine z_iconst (x := 1) (pc' := 172) dX12_readClause_171 (by decide) rfl ?_
        refine z_iload_n (pc' := 173) dX12_readClause_172 rfl rfl ?_
        refine z_ishl (pc' := 174) dX12_readClause_173 rfl rfl ?_
        obtain ⟨h1, h⟩ := h
        obtain ⟨S6, hG⟩ : ∃ z, z = zup S3 1113 x2.toNatClampNeg (1 <<< (x3 &&& 31)) := ⟨_, rfl⟩
        have h := h _ hG
        refine r_iast (pc' := 175) hK rt_13 rfl dX12_readClause_174 rfl h1  ?_
        refine r_st hG ?_
        refine z_goto (pc' := 209) dX12_readClause_175 (by decide) ?_
        exact z_dr (ls' := [some (.ref (zp 416 0)), none, some (.int x2), none]) ⟨rfl, rfl, trivial⟩ h
      · have h := h.2 hc
        refine z_iconst (x := 0) (pc' := 165) dX12_readClause_164 (by decide) rfl ?_
        exact z_zret (ty := .boolean) dX12_readClause_165 rfl (by decide) ⟨_, _, rfl, rfl, h⟩
    · have h := h.2 hc
      refine z_iinc (y := x3 + 1) (pc' := 155) dX12_readClause_152 rfl (zinc_1 _) (by decide) rfl ?_
      refine z_goto (pc' := 135) dX12_readClause_155 (by decide) ?_
      exact z_dr (ls' := [some (.ref (zp 416 0)), none, some (.int x2), some (.int (x3 + 1))]) ⟨rfl, rfl, rfl, trivial⟩ h
def rwp_X12_readClause_209 (E : ZE) (l : Launch) (d b : Nat) (A G : ZG) (Q : Option Value → ZS9 → Prop) (k : Nat) (x2 : Int32) (S : ZS9) : Prop :=
  vp_in x2 208 ∧
  ∀ S1, S1 = zup S 1114 x2.toNatClampNeg (S 416 20) →
  rcI E l mX12_passes d [.ref (zp 1000 2)] S1 k (fun y4 S2 k3 =>
  ((y4 = 0 →
    vp_in x2 208 ∧
    ∀ S5, S5 = zup S2 1115 x2.toNatClampNeg (S2 416 20) →
    Q (some (.int 1)) S5) ∧
  (¬ (y4 = 0) →
    ∀ S6, S6 = zup S2 416 7 0 →
    rcI E l mX12_readCond d [] S6 k3 (fun y9 S7 k8 =>
    ((¬ y9 = 0 →
      vp_in x2 208 ∧
      ∀ S10, S10 = zup S7 1115 x2.toNatClampNeg (S7 416 20) →
      Q (some (.int 1)) S10) ∧
    (¬ (¬ y9 = 0) →
      Q (some (.int 0)) S7))))))
theorem rwpt_X12_readClause_209 {E : ZE} {l : Launch} {d b : Nat} {A G : ZG} {Q : Option Value → ZS9 → Prop} {k : Nat} {x2 : Int32} {S : ZS9} (hK : RK G) (h : rwp_X12_readClause_209 E l d b A G Q k x2 S) : zW E l mX12_readClause d b A (rQ G Q) k 209 [some (.ref (zp 416 0)), none, some (.int x2), none] [] (zput G S) := by
  unfold rwp_X12_readClause_209 at h
  refine z_aload_n (pc' := 210) dX12_readClause_209 rfl rfl ?_
  refine r_getA (kf := 14) (pc' := 213) hK rt_14 dX12_readClause_210 kX12_33 rfl (by decide) (by decide) rfl ?_
  refine z_iload_n (pc' := 214) dX12_readClause_213 rfl rfl ?_
  refine z_aload_n (pc' := 215) dX12_readClause_214 rfl rfl ?_
  refine r_getI (kf := 20) (pc' := 218) hK dX12_readClause_215 kX12_217 rfl (by decide) (by decide) rfl ?_
  obtain ⟨h1, h⟩ := h
  obtain ⟨S1, hG⟩ : ∃ z, z = zup S 1114 x2.toNatClampNeg (S 416 20) := ⟨_, rfl⟩
  have h := h _ hG
  refine r_iast (pc' := 219) hK rt_14 rfl dX12_readClause_218 rfl h1  ?_
  refine r_st hG ?_
  refine z_aload_n (pc' := 220) dX12_readClause_219 rfl rfl ?_
  refine z_ldcSW (n := 2) (pc' := 223) (own := RX12) (tx := "if") rfl (by decide) dX12_readClause_220 rfl ?_
  refine r_callI (Y := mX12_passes) (n := 1) (as := [.ref (zp 1000 2)]) (st := []) (pc' := 226) h hK dX12_readClause_223 kX12_267 vX12_passes rfl rfl rfl (Nat.le_of_ble_eq_true rfl) (fun y4 S2 k3 h => ?_)
  refine z_if_eq (pt := 243) (pc' := 229) dX12_readClause_226 (by decide) rfl (fun hc => ?_) (fun hc => ?_)
  · have h := h.1 hc
    refine z_aload_n (pc' := 244) dX12_readClause_243 rfl rfl ?_
    refine r_getA (kf := 15) (pc' := 247) hK rt_15 dX12_readClause_244 kX12_36 rfl (by decide) (by decide) rfl ?_
    refine z_iload_n (pc' := 248) dX12_readClause_247 rfl rfl ?_
    refine z_aload_n (pc' := 249) dX12_readClause_248 rfl rfl ?_
    refine r_getI (kf := 20) (pc' := 252) hK dX12_readClause_249 kX12_217 rfl (by decide) (by decide) rfl ?_
    obtain ⟨h1, h⟩ := h
    obtain ⟨S5, hG⟩ : ∃ z, z = zup S2 1115 x2.toNatClampNeg (S2 416 20) := ⟨_, rfl⟩
    have h := h _ hG
    refine r_iast (pc' := 253) hK rt_15 rfl dX12_readClause_252 rfl h1  ?_
    refine r_st hG ?_
    refine z_iconst (x := 1) (pc' := 254) dX12_readClause_253 (by decide) rfl ?_
    exact z_zret (ty := .boolean) dX12_readClause_254 rfl (by decide) ⟨_, _, rfl, rfl, h⟩
  · have h := h.2 hc
    refine z_aload_n (pc' := 230) dX12_readClause_229 rfl rfl ?_
    refine z_iconst (x := 0) (pc' := 231) dX12_readClause_230 (by decide) rfl ?_
    obtain ⟨S6, hG⟩ : ∃ z, z = zup S2 416 7 0 := ⟨_, rfl⟩
    have h := h _ hG
    refine r_putI (kf := 7) (pc' := 234) hK dX12_readClause_231 kX12_258 rfl (by decide) (by decide) rfl rfl (zok_int _) ?_
    refine r_st hG ?_
    refine z_aload_n (pc' := 235) dX12_readClause_234 rfl rfl ?_
    refine r_callI (Y := mX12_readCond) (n := 0) (as := []) (st := []) (pc' := 238) h hK dX12_readClause_235 kX12_261 vX12_readCond rfl rfl rfl (Nat.le_of_ble_eq_true rfl) (fun y9 S7 k8 h => ?_)
    refine z_if_ne (pt := 243) (pc' := 241) dX12_readClause_238 (by decide) rfl (fun hc => ?_) (fun hc => ?_)
    · have h := h.1 hc
      refine z_aload_n (pc' := 244) dX12_readClause_243 rfl rfl ?_
      refine r_getA (kf := 15) (pc' := 247) hK rt_15 dX12_readClause_244 kX12_36 rfl (by decide) (by decide) rfl ?_
      refine z_iload_n (pc' := 248) dX12_readClause_247 rfl rfl ?_
      refine z_aload_n (pc' := 249) dX12_readClause_248 rfl rfl ?_
      refine r_getI (kf := 20) (pc' := 252) hK dX12_readClause_249 kX12_217 rfl (by decide) (by decide) rfl ?_
      obtain ⟨h1, h⟩ := h
      obtain ⟨S10, hG⟩ : ∃ z, z = zup S7 1115 x2.toNatClampNeg (S7 416 20) := ⟨_, rfl⟩
      have h := h _ hG
      refine r_iast (pc' := 253) hK rt_15 rfl dX12_readClause_252 rfl h1  ?_
      refine r_st hG ?_
      refine z_iconst (x := 1) (pc' := 254) dX12_readClause_253 (by decide) rfl ?_
      exact z_zret (ty := .boolean) dX12_readClause_254 rfl (by decide) ⟨_, _, rfl, rfl, h⟩
    · have h := h.2 hc
      refine z_iconst (x := 0) (pc' := 242) dX12_readClause_241 (by decide) rfl ?_
      exact z_zret (ty := .boolean) dX12_readClause_242 rfl (by decide) ⟨_, _, rfl, rfl, h⟩
def rwp_X12_readCond_0 (E : ZE) (l : Launch) (d b : Nat) (A G : ZG) (Q : Option Value → ZS9 → Prop) (k : Nat)  (S : ZS9) : Prop :=
  rcI E l mX12_readAllOf d [] S k (fun y3 S1 k2 =>
  ((¬ y3 = 0 →
    zW E l mX12_readCond d b A (rQ G Q) k2 9 [some (.ref (zp 416 0))] [] (zput G S1)) ∧
  (¬ (¬ y3 = 0) →
    Q (some (.int 0)) S1)))
theorem rwpt_X12_readCond_0 {E : ZE} {l : Launch} {d b : Nat} {A G : ZG} {Q : Option Value → ZS9 → Prop} {k : Nat}  {S : ZS9} (hK : RK G) (h : rwp_X12_readCond_0 E l d b A G Q k  S) : zW E l mX12_readCond d b A (rQ G Q) k 0 [some (.ref (zp 416 0))] [] (zput G S) := by
  unfold rwp_X12_readCond_0 at h
  refine z_aload_n (pc' := 1) dX12_readCond_0 rfl rfl ?_
  refine r_callI (Y := mX12_readAllOf) (n := 0) (as := []) (st := []) (pc' := 4) h hK dX12_readCond_1 kX12_286 vX12_readAllOf rfl rfl rfl (Nat.le_of_ble_eq_true rfl) (fun y3 S1 k2 h => ?_)
  refine z_if_ne (pt := 9) (pc' := 7) dX12_readCond_4 (by decide) rfl (fun hc => ?_) (fun hc => ?_)
  · have h := h.1 hc
    exact z_dr (ls' := [some (.ref (zp 416 0))]) ⟨rfl, trivial⟩ h
  · have h := h.2 hc
    refine z_iconst (x := 0) (pc' := 8) dX12_readCond_7 (by decide) rfl ?_
    exact z_zret (ty := .boolean) dX12_readCond_8 rfl (by decide) ⟨_, _, rfl, rfl, h⟩
def rwp_X12_readCond_9 (E : ZE) (l : Launch) (d b : Nat) (A G : ZG) (Q : Option Value → ZS9 → Prop) (k : Nat)  (S : ZS9) : Prop :=
  rcI E l mX12_passes d [.ref (zp 1000 6)] S k (fun y3 S1 k2 =>
  ((y3 = 0 →
    Q (some (.int 1)) S1) ∧
  (¬ (y3 = 0) →
    rcI E l mX12_readAllOf d [] S1 k2 (fun y6 S4 k5 =>
    ((¬ y6 = 0 →
      rcV E l mX12_adds d [.int 102, .int 0, .int 0] S4 k5 (fun S7 k8 =>
      zW E l mX12_readCond d b A (rQ G Q) k8 9 [some (.ref (zp 416 0))] [] (zput G S7))) ∧
    (¬ (¬ y6 = 0) →
      Q (some (.int 0)) S4))))))
theorem rwpt_X12_readCond_9 {E : ZE} {l : Launch} {d b : Nat} {A G : ZG} {Q : Option Value → ZS9 → Prop} {k : Nat}  {S : ZS9} (hK : RK G) (h : rwp_X12_readCond_9 E l d b A G Q k  S) : zW E l mX12_readCond d b A (rQ G Q) k 9 [some (.ref (zp 416 0))] [] (zput G S) := by
  unfold rwp_X12_readCond_9 at h
  refine z_aload_n (pc' := 10) dX12_readCond_9 rfl rfl ?_
  refine z_ldcSW (n := 6) (pc' := 13) (own := RX12) (tx := "or") rfl (by decide) dX12_readCond_10 rfl ?_
  refine r_callI (Y := mX12_passes) (n := 1) (as := [.ref (zp 1000 6)]) (st := []) (pc' := 16) h hK dX12_readCond_13 kX12_267 vX12_passes rfl rfl rfl (Nat.le_of_ble_eq_true rfl) (fun y3 S1 k2 h => ?_)
  refine z_if_eq (pt := 39) (pc' := 19) dX12_readCond_16 (by decide) rfl (fun hc => ?_) (fun hc => ?_)
  · have h := h.1 hc
    refine z_iconst (x := 1) (pc' := 40) dX12_readCond_39 (by decide) rfl ?_
    exact z_zret (ty := .boolean) dX12_readCond_40 rfl (by decide) ⟨_, _, rfl, rfl, h⟩
  · have h := h.2 hc
    refine z_aload_n (pc' := 20) dX12_readCond_19 rfl rfl ?_
    refine r_callI (Y := mX12_readAllOf) (n := 0) (as := []) (st := []) (pc' := 23) h hK dX12_readCond_20 kX12_286 vX12_readAllOf rfl rfl rfl (Nat.le_of_ble_eq_true rfl) (fun y6 S4 k5 h => ?_)
    refine z_if_ne (pt := 28) (pc' := 26) dX12_readCond_23 (by decide) rfl (fun hc => ?_) (fun hc => ?_)
    · have h := h.1 hc
      refine z_aload_n (pc' := 29) dX12_readCond_28 rfl rfl ?_
      refine z_bipush (x := 102) (pc' := 31) dX12_readCond_29 (by decide) rfl ?_
      refine z_iconst (x := 0) (pc' := 32) dX12_readCond_31 (by decide) rfl ?_
      refine z_iconst (x := 0) (pc' := 33) dX12_readCond_32 (by decide) rfl ?_
      refine r_callV (Y := mX12_adds) (n := 3) (as := [.int 102, .int 0, .int 0]) (st := []) (pc' := 36) h hK dX12_readCond_33 kX12_273 vX12_adds rfl rfl rfl (Nat.le_of_ble_eq_true rfl) (fun S7 k8 h => ?_)
      refine z_goto (pc' := 9) dX12_readCond_36 (by decide) ?_
      exact z_dr (ls' := [some (.ref (zp 416 0))]) ⟨rfl, trivial⟩ h
    · have h := h.2 hc
      refine z_iconst (x := 0) (pc' := 27) dX12_readCond_26 (by decide) rfl ?_
      exact z_zret (ty := .boolean) dX12_readCond_27 rfl (by decide) ⟨_, _, rfl, rfl, h⟩
def rwp_X12_readLaw_0 (E : ZE) (l : Launch) (d b : Nat) (A G : ZG) (Q : Option Value → ZS9 → Prop) (k : Nat)  (S : ZS9) : Prop :=
  ∀ S1, S1 = zup S 416 20 0 →
  rcV E l mX12_blanksBetween d [] S1 k (fun S2 k3 =>
  ((¬ (S2 416 4) = (S2 416 5) →
    zW E l mX12_readLaw d b A (rQ G Q) k3 24 [some (.ref (zp 416 0)), some (.int 0)] [] (zput G S2)) ∧
  (¬ (¬ (S2 416 4) = (S2 416 5)) →
    Q (some (.int 0)) S2)))
theorem rwpt_X12_readLaw_0 {E : ZE} {l : Launch} {d b : Nat} {A G : ZG} {Q : Option Value → ZS9 → Prop} {k : Nat}  {S : ZS9} (hK : RK G) (h : rwp_X12_readLaw_0 E l d b A G Q k  S) : zW E l mX12_readLaw d b A (rQ G Q) k 0 [some (.ref (zp 416 0)), none] [] (zput G S) := by
  unfold rwp_X12_readLaw_0 at h
  refine z_aload_n (pc' := 1) dX12_readLaw_0 rfl rfl ?_
  refine z_iconst (x := 0) (pc' := 2) dX12_readLaw_1 (by decide) rfl ?_
  obtain ⟨S1, hG⟩ : ∃ z, z = zup S 416 20 0 := ⟨_, rfl⟩
  have h := h _ hG
  refine r_putI (kf := 20) (pc' := 5) hK dX12_readLaw_2 kX12_217 rfl (by decide) (by decide) rfl rfl (zok_int _) ?_
  refine r_st hG ?_
  refine z_aload_n (pc' := 6) dX12_readLaw_5 rfl rfl ?_
  refine r_callV (Y := mX12_blanksBetween) (n := 0) (as := []) (st := []) (pc' := 9) h hK dX12_readLaw_6 kX12_197 vX12_blanksBetween rfl rfl rfl (Nat.le_of_ble_eq_true rfl) (fun S2 k3 h => ?_)
  refine z_aload_n (pc' := 10) dX12_readLaw_9 rfl rfl ?_
  refine r_getI (kf := 4) (pc' := 13) hK dX12_readLaw_10 kX12_187 rfl (by decide) (by decide) rfl ?_
  refine z_aload_n (pc' := 14) dX12_readLaw_13 rfl rfl ?_
  refine r_getI (kf := 5) (pc' := 17) hK dX12_readLaw_14 kX12_184 rfl (by decide) (by decide) rfl ?_
  refine z_icmp_ne (pt := 22) (pc' := 20) dX12_readLaw_17 (by decide) rfl (fun hc => ?_) (fun hc => ?_)
  · have h := h.1 hc
    refine z_iconst (x := 0) (pc' := 23) dX12_readLaw_22 (by decide) rfl ?_
    refine z_istore_n (pc' := 24) dX12_readLaw_23 (by decide) rfl ?_
    exact z_dr (ls' := [some (.ref (zp 416 0)), some (.int 0)]) ⟨rfl, rfl, trivial⟩ h
  · have h := h.2 hc
    refine z_iconst (x := 0) (pc' := 21) dX12_readLaw_20 (by decide) rfl ?_
    exact z_iret dX12_readLaw_21 rfl ⟨_, _, rfl, rfl, h⟩
def rwp_X12_readLaw_24 (E : ZE) (l : Launch) (d b : Nat) (A G : ZG) (Q : Option Value → ZS9 → Prop) (k : Nat) (x1 : Int32) (S : ZS9) : Prop :=
  rcI E l mX12_readClause d [.int x1] S k (fun y3 S1 k2 =>
  ((¬ y3 = 0 →
    rcV E l mX12_blanksBetween d [] S1 k2 (fun S4 k5 =>
    ((¬ (S4 416 4) = (S4 416 5) →
      rcI E l mX12_isAt d [.int 59, .int 59] S4 k5 (fun y8 S6 k7 =>
      ((¬ y8 = 0 →
        ∀ S9, S9 = zup S6 416 4 ((S6 416 4) + 1) →
        zW E l mX12_readLaw d b A (rQ G Q) k7 24 [some (.ref (zp 416 0)), some (.int (x1 + 1))] [] (zput G S9)) ∧
      (¬ (¬ y8 = 0) →
        Q (some (.int (-1))) S6)))) ∧
    (¬ (¬ (S4 416 4) = (S4 416 5)) →
      Q (some (.int (x1 + 1))) S4)))) ∧
  (¬ (¬ y3 = 0) →
    Q (some (.int (-1))) S1)))
theorem rwpt_X12_readLaw_24 {E : ZE} {l : Launch} {d b : Nat} {A G : ZG} {Q : Option Value → ZS9 → Prop} {k : Nat} {x1 : Int32} {S : ZS9} (hK : RK G) (h : rwp_X12_readLaw_24 E l d b A G Q k x1 S) : zW E l mX12_readLaw d b A (rQ G Q) k 24 [some (.ref (zp 416 0)), some (.int x1)] [] (zput G S) := by
  unfold rwp_X12_readLaw_24 at h
  refine z_aload_n (pc' := 25) dX12_readLaw_24 rfl rfl ?_
  refine z_iload_n (pc' := 26) dX12_readLaw_25 rfl rfl ?_
  refine r_callI (Y := mX12_readClause) (n := 1) (as := [.int x1]) (st := []) (pc' := 29) h hK dX12_readLaw_26 kX12_308 vX12_readClause rfl rfl rfl (Nat.le_of_ble_eq_true rfl) (fun y3 S1 k2 h => ?_)
  refine z_if_ne (pt := 34) (pc' := 32) dX12_readLaw_29 (by decide) rfl (fun hc => ?_) (fun hc => ?_)
  · have h := h.1 hc
    refine z_aload_n (pc' := 35) dX12_readLaw_34 rfl rfl ?_
    refine r_callV (Y := mX12_blanksBetween) (n := 0) (as := []) (st := []) (pc' := 38) h hK dX12_readLaw_35 kX12_197 vX12_blanksBetween rfl rfl rfl (Nat.le_of_ble_eq_true rfl) (fun S4 k5 h => ?_)
    refine z_aload_n (pc' := 39) dX12_readLaw_38 rfl rfl ?_
    refine r_getI (kf := 4) (pc' := 42) hK dX12_readLaw_39 kX12_187 rfl (by decide) (by decide) rfl ?_
    refine z_aload_n (pc' := 43) dX12_readLaw_42 rfl rfl ?_
    refine r_getI (kf := 5) (pc' := 46) hK dX12_readLaw_43 kX12_184 rfl (by decide) (by decide) rfl ?_
    refine z_icmp_ne (pt := 53) (pc' := 49) dX12_readLaw_46 (by decide) rfl (fun hc => ?_) (fun hc => ?_)
    · have h := h.1 hc
      refine z_aload_n (pc' := 54) dX12_readLaw_53 rfl rfl ?_
      refine z_bipush (x := 59) (pc' := 56) dX12_readLaw_54 (by decide) rfl ?_
      refine z_bipush (x := 59) (pc' := 58) dX12_readLaw_56 (by decide) rfl ?_
      refine r_callI (Y := mX12_isAt) (n := 2) (as := [.int 59, .int 59]) (st := []) (pc' := 61) h hK dX12_readLaw_58 kX12_190 vX12_isAt rfl rfl rfl (Nat.le_of_ble_eq_true rfl) (fun y8 S6 k7 h => ?_)
      refine z_if_ne (pt := 66) (pc' := 64) dX12_readLaw_61 (by decide) rfl (fun hc => ?_) (fun hc => ?_)
      · have h := h.1 hc
        refine z_aload_n (pc' := 67) dX12_readLaw_66 rfl rfl ?_
        refine z_dup (pc' := 68) dX12_readLaw_67 rfl rfl ?_
        refine r_getI (kf := 4) (pc' := 71) hK dX12_readLaw_68 kX12_187 rfl (by decide) (by decide) rfl ?_
        refine z_iconst (x := 1) (pc' := 72) dX12_readLaw_71 (by decide) rfl ?_
        refine z_iadd (pc' := 73) dX12_readLaw_72 rfl rfl ?_
        obtain ⟨S9, hG⟩ : ∃ z, z = zup S6 416 4 ((S6 416 4) + 1) := ⟨_, rfl⟩
        have h := h _ hG
        refine r_putI (kf := 4) (pc' := 76) hK dX12_readLaw_73 kX12_187 rfl (by decide) (by decide) rfl rfl (zok_int _) ?_
        refine r_st hG ?_
        refine z_iinc (y := x1 + 1) (pc' := 79) dX12_readLaw_76 rfl (zinc_1 _) (by decide) rfl ?_
        refine z_goto (pc' := 24) dX12_readLaw_79 (by decide) ?_
        exact z_dr (ls' := [some (.ref (zp 416 0)), some (.int (x1 + 1))]) ⟨rfl, rfl, trivial⟩ h
      · have h := h.2 hc
        refine z_iconst (x := (-1)) (pc' := 65) dX12_readLaw_64 (by decide) rfl ?_
        exact z_iret dX12_readLaw_65 rfl ⟨_, _, rfl, rfl, h⟩
    · have h := h.2 hc
      refine z_iload_n (pc' := 50) dX12_readLaw_49 rfl rfl ?_
      refine z_iconst (x := 1) (pc' := 51) dX12_readLaw_50 (by decide) rfl ?_
      refine z_iadd (pc' := 52) dX12_readLaw_51 rfl rfl ?_
      exact z_iret dX12_readLaw_52 rfl ⟨_, _, rfl, rfl, h⟩
  · have h := h.2 hc
    refine z_iconst (x := (-1)) (pc' := 33) dX12_readLaw_32 (by decide) rfl ?_
    exact z_iret dX12_readLaw_33 rfl ⟨_, _, rfl, rfl, h⟩
def rwp_X12_readName_0 (E : ZE) (l : Launch) (d b : Nat) (A G : ZG) (Q : Option Value → ZS9 → Prop) (k : Nat)  (S : ZS9) : Prop :=
  ∀ S1, S1 = zup S 416 4 0 →
  zW E l mX12_readName d b A (rQ G Q) k 10 [some (.ref (zp 416 0)), some (.int 0), some (.int 32), none, none] [] (zput G S1)
theorem rwpt_X12_readName_0 {E : ZE} {l : Launch} {d b : Nat} {A G : ZG} {Q : Option Value → ZS9 → Prop} {k : Nat}  {S : ZS9} (hK : RK G) (h : rwp_X12_readName_0 E l d b A G Q k  S) : zW E l mX12_readName d b A (rQ G Q) k 0 [some (.ref (zp 416 0)), none, none, none, none] [] (zput G S) := by
  unfold rwp_X12_readName_0 at h
  refine z_iconst (x := 0) (pc' := 1) dX12_readName_0 (by decide) rfl ?_
  refine z_istore_n (pc' := 2) dX12_readName_1 (by decide) rfl ?_
  refine z_bipush (x := 32) (pc' := 4) dX12_readName_2 (by decide) rfl ?_
  refine z_istore_n (pc' := 5) dX12_readName_4 (by decide) rfl ?_
  refine z_aload_n (pc' := 6) dX12_readName_5 rfl rfl ?_
  refine z_iconst (x := 0) (pc' := 7) dX12_readName_6 (by decide) rfl ?_
  obtain ⟨S1, hG⟩ : ∃ z, z = zup S 416 4 0 := ⟨_, rfl⟩
  have h := h _ hG
  refine r_putI (kf := 4) (pc' := 10) hK dX12_readName_7 kX12_187 rfl (by decide) (by decide) rfl rfl (zok_int _) ?_
  refine r_st hG ?_
  exact z_dr (ls' := [some (.ref (zp 416 0)), some (.int 0), some (.int 32), none, none]) ⟨rfl, rfl, rfl, trivial⟩ h
def rwp_X12_readName_10 (E : ZE) (l : Launch) (d b : Nat) (A G : ZG) (Q : Option Value → ZS9 → Prop) (k : Nat) (x1 : Int32) (x2 : Int32) (S : ZS9) : Prop :=
  (((S 416 5) ≤ (S 416 4) →
    ∀ S1, S1 = zup S 416 6 (S 416 5) →
    scI E l mX12_isGap d [.int x2] (fun y2 =>
    ((y2 = 0 →
      Q (some (.int x1)) S1) ∧
    (¬ (y2 = 0) →
      Q (some (.int (-1))) S1)))) ∧
  (¬ ((S 416 5) ≤ (S 416 4)) →
    vp_in (S 416 4) 400 ∧
    scI E l mX12_turnOf d [.int ((S 1602 (S 416 4).toNatClampNeg) &&& 255)] (fun y3 =>
    ∀ S4, S4 = zup S 416 6 (S 416 4) →
    (((S4 416 4) = 24 →
      Q (some (.int (-1))) S4) ∧
    (¬ ((S4 416 4) = 24) →
      ((y3 = 0 →
        Q (some (.int (-1))) S4) ∧
      (¬ (y3 = 0) →
        scI E l mX12_isGap d [.int ((S 1602 (S 416 4).toNatClampNeg) &&& 255)] (fun y5 =>
        ((y5 = 0 →
          zW E l mX12_readName d b A (rQ G Q) k 79 [some (.ref (zp 416 0)), some (.int x1), none, some (.int ((S 1602 (S 416 4).toNatClampNeg) &&& 255)), some (.int y3)] [] (zput G S4)) ∧
        (¬ (y5 = 0) →
          scI E l mX12_isGap d [.int x2] (fun y6 =>
          ((y6 = 0 →
            zW E l mX12_readName d b A (rQ G Q) k 79 [some (.ref (zp 416 0)), some (.int x1), none, some (.int ((S 1602 (S 416 4).toNatClampNeg) &&& 255)), some (.int y3)] [] (zput G S4)) ∧
          (¬ (y6 = 0) →
            Q (some (.int (-1))) S4)))))))))))))
theorem rwpt_X12_readName_10 {E : ZE} {l : Launch} {d b : Nat} {A G : ZG} {Q : Option Value → ZS9 → Prop} {k : Nat} {x1 : Int32} {x2 : Int32} {S : ZS9} (hK : RK G) (h : rwp_X12_readName_10 E l d b A G Q k x1 x2 S) : zW E l mX12_readName d b A (rQ G Q) k 10 [some (.ref (zp 416 0)), some (.int x1), some (.int x2), none, none] [] (zput G S) := by
  unfold rwp_X12_readName_10 at h
  refine z_aload_n (pc' := 11) dX12_readName_10 rfl rfl ?_
  refine r_getI (kf := 4) (pc' := 14) hK dX12_readName_11 kX12_187 rfl (by decide) (by decide) rfl ?_
  refine z_aload_n (pc' := 15) dX12_readName_14 rfl rfl ?_
  refine r_getI (kf := 5) (pc' := 18) hK dX12_readName_15 kX12_184 rfl (by decide) (by decide) rfl ?_
  refine z_icmp_ge (pt := 132) (pc' := 21) dX12_readName_18 (by decide) rfl (fun hc => ?_) (fun hc => ?_)
  · have h := h.1 hc
    refine z_aload_n (pc' := 133) dX12_readName_132 rfl rfl ?_
    refine z_aload_n (pc' := 134) dX12_readName_133 rfl rfl ?_
    refine r_getI (kf := 5) (pc' := 137) hK dX12_readName_134 kX12_184 rfl (by decide) (by decide) rfl ?_
    obtain ⟨S1, hG⟩ : ∃ z, z = zup S 416 6 (S 416 5) := ⟨_, rfl⟩
    have h := h _ hG
    refine r_putI (kf := 6) (pc' := 140) hK dX12_readName_137 kX12_194 rfl (by decide) (by decide) rfl rfl (zok_int _) ?_
    refine r_st hG ?_
    refine z_iload_n (pc' := 141) dX12_readName_140 rfl rfl ?_
    refine r_callSI (Y := mX12_isGap) (n := 1) (as := [.int x2]) (st := []) (pc' := 144) h dX12_readName_141 kX12_382 sX12_isGap rfl rfl (Nat.le_of_ble_eq_true rfl) (fun y2 h => ?_)
    refine z_if_eq (pt := 151) (pc' := 147) dX12_readName_144 (by decide) rfl (fun hc => ?_) (fun hc => ?_)
    · have h := h.1 hc
      refine z_iload_n (pc' := 152) dX12_readName_151 rfl rfl ?_
      exact z_iret dX12_readName_152 rfl ⟨_, _, rfl, rfl, h⟩
    · have h := h.2 hc
      refine z_iconst (x := (-1)) (pc' := 148) dX12_readName_147 (by decide) rfl ?_
      refine z_goto (pc' := 152) dX12_readName_148 (by decide) ?_
      exact z_iret dX12_readName_152 rfl ⟨_, _, rfl, rfl, h⟩
  · have h := h.2 hc
    refine z_aload_n (pc' := 22) dX12_readName_21 rfl rfl ?_
    refine r_getA (kf := 2) (pc' := 25) hK rt_2 dX12_readName_22 kX12_9 rfl (by decide) (by decide) rfl ?_
    refine z_aload_n (pc' := 26) dX12_readName_25 rfl rfl ?_
    refine r_getI (kf := 4) (pc' := 29) hK dX12_readName_26 kX12_187 rfl (by decide) (by decide) rfl ?_
    obtain ⟨h1, h⟩ := h
    refine r_bald (pc' := 30) hK rt_2 rfl dX12_readName_29 rfl h1 ?_
    refine z_sipush (x := 255) (pc' := 33) dX12_readName_30 (by decide) rfl ?_
    refine z_iand (pc' := 34) dX12_readName_33 rfl rfl ?_
    refine z_istore_n (pc' := 35) dX12_readName_34 (by decide) rfl ?_
    refine z_iload_n (pc' := 36) dX12_readName_35 rfl rfl ?_
    refine r_callSI (Y := mX12_turnOf) (n := 1) (as := [.int ((S 1602 (S 416 4).toNatClampNeg) &&& 255)]) (st := []) (pc' := 39) h dX12_readName_36 kX12_379 sX12_turnOf rfl rfl (Nat.le_of_ble_eq_true rfl) (fun y3 h => ?_)
    refine z_istore (pc' := 41) dX12_readName_39 (by decide) rfl ?_
    refine z_aload_n (pc' := 42) dX12_readName_41 rfl rfl ?_
    refine z_aload_n (pc' := 43) dX12_readName_42 rfl rfl ?_
    refine r_getI (kf := 4) (pc' := 46) hK dX12_readName_43 kX12_187 rfl (by decide) (by decide) rfl ?_
    obtain ⟨S4, hG⟩ : ∃ z, z = zup S 416 6 (S 416 4) := ⟨_, rfl⟩
    have h := h _ hG
    refine r_putI (kf := 6) (pc' := 49) hK dX12_readName_46 kX12_194 rfl (by decide) (by decide) rfl rfl (zok_int _) ?_
    refine r_st hG ?_
    refine z_aload_n (pc' := 50) dX12_readName_49 rfl rfl ?_
    refine r_getI (kf := 4) (pc' := 53) hK dX12_readName_50 kX12_187 rfl (by decide) (by decide) rfl ?_
    refine z_bipush (x := 24) (pc' := 55) dX12_readName_53 (by decide) rfl ?_
    refine z_icmp_eq (pt := 77) (pc' := 58) dX12_readName_55 (by decide) rfl (fun hc => ?_) (fun hc => ?_)
    · have h := h.1 hc
      refine z_iconst (x := (-1)) (pc' := 78) dX12_readName_77 (by decide) rfl ?_
      exact z_iret dX12_readName_78 rfl ⟨_, _, rfl, rfl, h⟩
    · have h := h.2 hc
      refine z_iload (pc' := 60) dX12_readName_58 rfl rfl ?_
      refine z_if_eq (pt := 77) (pc' := 63) dX12_readName_60 (by decide) rfl (fun hc => ?_) (fun hc => ?_)
      · have h := h.1 hc
        refine z_iconst (x := (-1)) (pc' := 78) dX12_readName_77 (by decide) rfl ?_
        exact z_iret dX12_readName_78 rfl ⟨_, _, rfl, rfl, h⟩
      · have h := h.2 hc
        refine z_iload_n (pc' := 64) dX12_readName_63 rfl rfl ?_
        refine r_callSI (Y := mX12_isGap) (n := 1) (as := [.int ((S 1602 (S 416 4).toNatClampNeg) &&& 255)]) (st := []) (pc' := 67) h dX12_readName_64 kX12_382 sX12_isGap rfl rfl (Nat.le_of_ble_eq_true rfl) (fun y5 h => ?_)
        refine z_if_eq (pt := 79) (pc' := 70) dX12_readName_67 (by decide) rfl (fun hc => ?_) (fun hc => ?_)
        · have h := h.1 hc
          exact z_dr (ls' := [some (.ref (zp 416 0)), some (.int x1), none, some (.int ((S 1602 (S 416 4).toNatClampNeg) &&& 255)), some (.int y3)]) ⟨rfl, rfl, rfl, rfl, trivial⟩ h
        · have h := h.2 hc
          refine z_iload_n (pc' := 71) dX12_readName_70 rfl rfl ?_
          refine r_callSI (Y := mX12_isGap) (n := 1) (as := [.int x2]) (st := []) (pc' := 74) h dX12_readName_71 kX12_382 sX12_isGap rfl rfl (Nat.le_of_ble_eq_true rfl) (fun y6 h => ?_)
          refine z_if_eq (pt := 79) (pc' := 77) dX12_readName_74 (by decide) rfl (fun hc => ?_) (fun hc => ?_)
          · have h := h.1 hc
            exact z_dr (ls' := [some (.ref (zp 416 0)), some (.int x1), none, some (.int ((S 1602 (S 416 4).toNatClampNeg) &&& 255)), some (.int y3)]) ⟨rfl, rfl, rfl, rfl, trivial⟩ h
          · have h := h.2 hc
            refine z_iconst (x := (-1)) (pc' := 78) dX12_readName_77 (by decide) rfl ?_
            exact z_iret dX12_readName_78 rfl ⟨_, _, rfl, rfl, h⟩
def rwp_X12_readName_79 (E : ZE) (l : Launch) (d b : Nat) (A G : ZG) (Q : Option Value → ZS9 → Prop) (k : Nat) (x1 : Int32) (x3 : Int32) (x4 : Int32) (S : ZS9) : Prop :=
  vp_in x1 48 ∧
  ∀ S1, S1 = zup S 1136 x1.toNatClampNeg (x4 - x4 / 256 * 256) →
  ((x4 < 256 →
    ∀ S2, S2 = zup S1 416 4 ((S1 416 4) + 1) →
    zW E l mX12_readName d b A (rQ G Q) k 10 [some (.ref (zp 416 0)), some (.int (x1 + 1)), some (.int x3), none, none] [] (zput G S2)) ∧
  (¬ (x4 < 256) →
    vp_in (x1 + 1) 48 ∧
    ∀ S3, S3 = zup S1 1136 (x1 + 1).toNatClampNeg (x4 / 256) →
    ∀ S4, S4 = zup S3 416 4 ((S3 416 4) + 1) →
    zW E l mX12_readName d b A (rQ G Q) k 10 [some (.ref (zp 416 0)), some (.int ((x1 + 1) + 1)), some (.int x3), none, none] [] (zput G S4)))
theorem rwpt_X12_readName_79 {E : ZE} {l : Launch} {d b : Nat} {A G : ZG} {Q : Option Value → ZS9 → Prop} {k : Nat} {x1 : Int32} {x3 : Int32} {x4 : Int32} {S : ZS9} (hK : RK G) (h : rwp_X12_readName_79 E l d b A G Q k x1 x3 x4 S) : zW E l mX12_readName d b A (rQ G Q) k 79 [some (.ref (zp 416 0)), some (.int x1), none, some (.int x3), some (.int x4)] [] (zput G S) := by
  unfold rwp_X12_readName_79 at h
  refine z_aload_n (pc' := 80) dX12_readName_79 rfl rfl ?_
  refine r_getA (kf := 36) (pc' := 83) hK rt_36 dX12_readName_80 kX12_73 rfl (by decide) (by decide) rfl ?_
  refine z_iload_n (pc' := 84) dX12_readName_83 rfl rfl ?_
  refine z_iload (pc' := 86) dX12_readName_84 rfl rfl ?_
  refine z_sipush (x := 256) (pc' := 89) dX12_readName_86 (by decide) rfl ?_
  refine z_irem (pc' := 90) dX12_readName_89 (by decide) rfl rfl ?_
  obtain ⟨h1, h⟩ := h
  obtain ⟨S1, hG⟩ : ∃ z, z = zup S 1136 x1.toNatClampNeg (x4 - x4 / 256 * 256) := ⟨_, rfl⟩
  have h := h _ hG
  refine r_iast (pc' := 91) hK rt_36 rfl dX12_readName_90 rfl h1  ?_
  refine r_st hG ?_
  refine z_iinc (y := x1 + 1) (pc' := 94) dX12_readName_91 rfl (zinc_1 _) (by decide) rfl ?_
  refine z_iload (pc' := 96) dX12_readName_94 rfl rfl ?_
  refine z_sipush (x := 256) (pc' := 99) dX12_readName_96 (by decide) rfl ?_
  refine z_icmp_lt (pt := 117) (pc' := 102) dX12_readName_99 (by decide) rfl (fun hc => ?_) (fun hc => ?_)
  · have h := h.1 hc
    refine z_iload_n (pc' := 118) dX12_readName_117 rfl rfl ?_
    refine z_istore_n (pc' := 119) dX12_readName_118 (by decide) rfl ?_
    refine z_aload_n (pc' := 120) dX12_readName_119 rfl rfl ?_
    refine z_dup (pc' := 121) dX12_readName_120 rfl rfl ?_
    refine r_getI (kf := 4) (pc' := 124) hK dX12_readName_121 kX12_187 rfl (by decide) (by decide) rfl ?_
    refine z_iconst (x := 1) (pc' := 125) dX12_readName_124 (by decide) rfl ?_
    refine z_iadd (pc' := 126) dX12_readName_125 rfl rfl ?_
    obtain ⟨S2, hG⟩ : ∃ z, z = zup S1 416 4 ((S1 416 4) + 1) := ⟨_, rfl⟩
    have h := h _ hG
    refine r_putI (kf := 4) (pc' := 129) hK dX12_readName_126 kX12_187 rfl (by decide) (by decide) rfl rfl (zok_int _) ?_
    refine r_st hG ?_
    refine z_goto (pc' := 10) dX12_readName_129 (by decide) ?_
    exact z_dr (ls' := [some (.ref (zp 416 0)), some (.int (x1 + 1)), some (.int x3), none, none]) ⟨rfl, rfl, rfl, trivial⟩ h
  · have h := h.2 hc
    refine z_aload_n (pc' := 103) dX12_readName_102 rfl rfl ?_
    refine r_getA (kf := 36) (pc' := 106) hK rt_36 dX12_readName_103 kX12_73 rfl (by decide) (by decide) rfl ?_
    refine z_iload_n (pc' := 107) dX12_readName_106 rfl rfl ?_
    refine z_iload (pc' := 109) dX12_readName_107 rfl rfl ?_
    refine z_sipush (x := 256) (pc' := 112) dX12_readName_109 (by decide) rfl ?_
    refine z_idiv (pc' := 113) dX12_readName_112 (by decide) rfl rfl ?_
    obtain ⟨h1, h⟩ := h
    obtain ⟨S3, hG⟩ : ∃ z, z = zup S1 1136 (x1 + 1).toNatClampNeg (x4 / 256) := ⟨_, rfl⟩
    have h := h _ hG
    refine r_iast (pc' := 114) hK rt_36 rfl dX12_readName_113 rfl h1  ?_
    refine r_st hG ?_
    refine z_iinc (y := (x1 + 1) + 1) (pc' := 117) dX12_readName_114 rfl (zinc_1 _) (by decide) rfl ?_
    refine z_iload_n (pc' := 118) dX12_readName_117 rfl rfl ?_
    refine z_istore_n (pc' := 119) dX12_readName_118 (by decide) rfl ?_
    refine z_aload_n (pc' := 120) dX12_readName_119 rfl rfl ?_
    refine z_dup (pc' := 121) dX12_readName_120 rfl rfl ?_
    refine r_getI (kf := 4) (pc' := 124) hK dX12_readName_121 kX12_187 rfl (by decide) (by decide) rfl ?_
    refine z_iconst (x := 1) (pc' := 125) dX12_readName_124 (by decide) rfl ?_
    refine z_iadd (pc' := 126) dX12_readName_125 rfl rfl ?_
    obtain ⟨S4, hG⟩ : ∃ z, z = zup S3 416 4 ((S3 416 4) + 1) := ⟨_, rfl⟩
    have h := h _ hG
    refine r_putI (kf := 4) (pc' := 129) hK dX12_readName_126 kX12_187 rfl (by decide) (by decide) rfl rfl (zok_int _) ?_
    refine r_st hG ?_
    refine z_goto (pc' := 10) dX12_readName_129 (by decide) ?_
    exact z_dr (ls' := [some (.ref (zp 416 0)), some (.int ((x1 + 1) + 1)), some (.int x3), none, none]) ⟨rfl, rfl, rfl, trivial⟩ h
def rwp_X12_refuse_0 (E : ZE) (l : Launch) (d b : Nat) (A G : ZG) (Q : Option Value → ZS9 → Prop) (k : Nat) (x1 : Int32) (S : ZS9) : Prop :=
  ∀ S1, S1 = zup S 416 0 0 →
  rcI E l mX12_noAsking d [.int x1] S1 k (fun y4 S2 k3 =>
  rcI E l mX12_throwsIf d [.int y4, .int 1] S2 k3 (fun y7 S5 k6 =>
  ((¬ y7 = 0 →
    Q none S5) ∧
  (¬ (¬ y7 = 0) →
    rcI E l mX12_now d [.int x1, .int 0] S5 k6 (fun y10 S8 k9 =>
    ((y10 ≤ 5 →
      rcI E l mX12_throwsIf d [.int 0, .int 2] S8 k9 (fun y13 S11 k12 =>
      ((y13 = 0 →
        rcV E l mX12_sets d [.int x1, .int 0, .int 9] S11 k12 (fun S14 k15 =>
        Q none S14)) ∧
      (¬ (y13 = 0) →
        Q none S11)))) ∧
    (¬ (y10 ≤ 5) →
      rcI E l mX12_throwsIf d [.int 1, .int 2] S8 k9 (fun y18 S16 k17 =>
      ((y18 = 0 →
        rcV E l mX12_sets d [.int x1, .int 0, .int 9] S16 k17 (fun S19 k20 =>
        Q none S19)) ∧
      (¬ (y18 = 0) →
        Q none S16))))))))))
theorem rwpt_X12_refuse_0 {E : ZE} {l : Launch} {d b : Nat} {A G : ZG} {Q : Option Value → ZS9 → Prop} {k : Nat} {x1 : Int32} {S : ZS9} (hK : RK G) (h : rwp_X12_refuse_0 E l d b A G Q k x1 S) : zW E l mX12_refuse d b A (rQ G Q) k 0 [some (.ref (zp 416 0)), some (.int x1)] [] (zput G S) := by
  unfold rwp_X12_refuse_0 at h
  refine z_aload_n (pc' := 1) dX12_refuse_0 rfl rfl ?_
  refine z_iconst (x := 0) (pc' := 2) dX12_refuse_1 (by decide) rfl ?_
  obtain ⟨S1, hG⟩ : ∃ z, z = zup S 416 0 0 := ⟨_, rfl⟩
  have h := h _ hG
  refine r_putI (kf := 0) (pc' := 5) hK dX12_refuse_2 kX12_178 rfl (by decide) (by decide) rfl rfl (zok_int _) ?_
  refine r_st hG ?_
  refine z_aload_n (pc' := 6) dX12_refuse_5 rfl rfl ?_
  refine z_aload_n (pc' := 7) dX12_refuse_6 rfl rfl ?_
  refine z_iload_n (pc' := 8) dX12_refuse_7 rfl rfl ?_
  refine r_callI (Y := mX12_noAsking) (n := 1) (as := [.int x1]) (st := [.ref (zp 416 0)]) (pc' := 11) h hK dX12_refuse_8 kX12_431 vX12_noAsking rfl rfl rfl (Nat.le_of_ble_eq_true rfl) (fun y4 S2 k3 h => ?_)
  refine z_iconst (x := 1) (pc' := 12) dX12_refuse_11 (by decide) rfl ?_
  refine r_callI (Y := mX12_throwsIf) (n := 2) (as := [.int y4, .int 1]) (st := []) (pc' := 15) h hK dX12_refuse_12 kX12_321 vX12_throwsIf rfl rfl rfl (Nat.le_of_ble_eq_true rfl) (fun y7 S5 k6 h => ?_)
  refine z_if_ne (pt := 41) (pc' := 18) dX12_refuse_15 (by decide) rfl (fun hc => ?_) (fun hc => ?_)
  · have h := h.1 hc
    exact z_vret dX12_refuse_41 rfl ⟨_, _, rfl, rfl, h⟩
  · have h := h.2 hc
    refine z_aload_n (pc' := 19) dX12_refuse_18 rfl rfl ?_
    refine z_aload_n (pc' := 20) dX12_refuse_19 rfl rfl ?_
    refine z_iload_n (pc' := 21) dX12_refuse_20 rfl rfl ?_
    refine z_iconst (x := 0) (pc' := 22) dX12_refuse_21 (by decide) rfl ?_
    refine r_callI (Y := mX12_now) (n := 2) (as := [.int x1, .int 0]) (st := [.ref (zp 416 0)]) (pc' := 25) h hK dX12_refuse_22 kX12_434 vX12_now rfl rfl rfl (Nat.le_of_ble_eq_true rfl) (fun y10 S8 k9 h => ?_)
    refine z_iconst (x := 5) (pc' := 26) dX12_refuse_25 (by decide) rfl ?_
    refine z_icmp_le (pt := 33) (pc' := 29) dX12_refuse_26 (by decide) rfl (fun hc => ?_) (fun hc => ?_)
    · have h := h.1 hc
      refine z_iconst (x := 0) (pc' := 34) dX12_refuse_33 (by decide) rfl ?_
      refine z_iconst (x := 2) (pc' := 35) dX12_refuse_34 (by decide) rfl ?_
      refine r_callI (Y := mX12_throwsIf) (n := 2) (as := [.int 0, .int 2]) (st := []) (pc' := 38) h hK dX12_refuse_35 kX12_321 vX12_throwsIf rfl rfl rfl (Nat.le_of_ble_eq_true rfl) (fun y13 S11 k12 h => ?_)
      refine z_if_eq (pt := 42) (pc' := 41) dX12_refuse_38 (by decide) rfl (fun hc => ?_) (fun hc => ?_)
      · have h := h.1 hc
        refine z_aload_n (pc' := 43) dX12_refuse_42 rfl rfl ?_
        refine z_iload_n (pc' := 44) dX12_refuse_43 rfl rfl ?_
        refine z_iconst (x := 0) (pc' := 45) dX12_refuse_44 (by decide) rfl ?_
        refine z_bipush (x := 9) (pc' := 47) dX12_refuse_45 (by decide) rfl ?_
        refine r_callV (Y := mX12_sets) (n := 3) (as := [.int x1, .int 0, .int 9]) (st := []) (pc' := 50) h hK dX12_refuse_47 kX12_425 vX12_sets rfl rfl rfl (Nat.le_of_ble_eq_true rfl) (fun S14 k15 h => ?_)
        exact z_vret dX12_refuse_50 rfl ⟨_, _, rfl, rfl, h⟩
      · have h := h.2 hc
        exact z_vret dX12_refuse_41 rfl ⟨_, _, rfl, rfl, h⟩
    · have h := h.2 hc
      refine z_iconst (x := 1) (pc' := 30) dX12_refuse_29 (by decide) rfl ?_
      refine z_goto (pc' := 34) dX12_refuse_30 (by decide) ?_
      refine z_iconst (x := 2) (pc' := 35) dX12_refuse_34 (by decide) rfl ?_
      refine r_callI (Y := mX12_throwsIf) (n := 2) (as := [.int 1, .int 2]) (st := []) (pc' := 38) h hK dX12_refuse_35 kX12_321 vX12_throwsIf rfl rfl rfl (Nat.le_of_ble_eq_true rfl) (fun y18 S16 k17 h => ?_)
      refine z_if_eq (pt := 42) (pc' := 41) dX12_refuse_38 (by decide) rfl (fun hc => ?_) (fun hc => ?_)
      · have h := h.1 hc
        refine z_aload_n (pc' := 43) dX12_refuse_42 rfl rfl ?_
        refine z_iload_n (pc' := 44) dX12_refuse_43 rfl rfl ?_
        refine z_iconst (x := 0) (pc' := 45) dX12_refuse_44 (by decide) rfl ?_
        refine z_bipush (x := 9) (pc' := 47) dX12_refuse_45 (by decide) rfl ?_
        refine r_callV (Y := mX12_sets) (n := 3) (as := [.int x1, .int 0, .int 9]) (st := []) (pc' := 50) h hK dX12_refuse_47 kX12_425 vX12_sets rfl rfl rfl (Nat.le_of_ble_eq_true rfl) (fun S19 k20 h => ?_)
        exact z_vret dX12_refuse_50 rfl ⟨_, _, rfl, rfl, h⟩
      · have h := h.2 hc
        exact z_vret dX12_refuse_41 rfl ⟨_, _, rfl, rfl, h⟩
def rwp_X12_rules_0 (E : ZE) (l : Launch) (d b : Nat) (A G : ZG) (Q : Option Value → ZS9 → Prop) (k : Nat) (x1 : Int32) (x2 : Int32) (x3 : Int32) (x4 : Int32) (x5 : Int32) (S : ZS9) : Prop :=
  ∀ S1, S1 = zup S 416 0 0 →
  scI E l mX12_in d [.int x1, .int 1, .int 200] (fun y2 =>
  ((y2 = 0 →
    zW E l mX12_rules d b A (rQ G Q) k 66 [some (.ref (zp 416 0)), some (.int x1), some (.int x2), some (.int x3), some (.int x4), some (.int x5)] [.int 1, .ref (zp 416 0)] (zput G S1)) ∧
  (¬ (y2 = 0) →
    scI E l mX12_in d [.int x2, .int 0, .int 10000] (fun y3 =>
    ((y3 = 0 →
      zW E l mX12_rules d b A (rQ G Q) k 66 [some (.ref (zp 416 0)), some (.int x1), some (.int x2), some (.int x3), some (.int x4), some (.int x5)] [.int 1, .ref (zp 416 0)] (zput G S1)) ∧
    (¬ (y3 = 0) →
      scI E l mX12_in d [.int x3, .int 0, .int 1000] (fun y4 =>
      ((y4 = 0 →
        zW E l mX12_rules d b A (rQ G Q) k 66 [some (.ref (zp 416 0)), some (.int x1), some (.int x2), some (.int x3), some (.int x4), some (.int x5)] [.int 1, .ref (zp 416 0)] (zput G S1)) ∧
      (¬ (y4 = 0) →
        scI E l mX12_in d [.int x4, .int 0, .int 60] (fun y5 =>
        ((y5 = 0 →
          zW E l mX12_rules d b A (rQ G Q) k 66 [some (.ref (zp 416 0)), some (.int x1), some (.int x2), some (.int x3), some (.int x4), some (.int x5)] [.int 1, .ref (zp 416 0)] (zput G S1)) ∧
        (¬ (y5 = 0) →
          scI E l mX12_in d [.int x5, .int 0, .int 60] (fun y6 =>
          ((¬ y6 = 0 →
            zW E l mX12_rules d b A (rQ G Q) k 66 [some (.ref (zp 416 0)), some (.int x1), some (.int x2), some (.int x3), some (.int x4), some (.int x5)] [.int 0, .ref (zp 416 0)] (zput G S1)) ∧
          (¬ (¬ y6 = 0) →
            zW E l mX12_rules d b A (rQ G Q) k 66 [some (.ref (zp 416 0)), some (.int x1), some (.int x2), some (.int x3), some (.int x4), some (.int x5)] [.int 1, .ref (zp 416 0)] (zput G S1))))))))))))))))
theorem rwpt_X12_rules_0 {E : ZE} {l : Launch} {d b : Nat} {A G : ZG} {Q : Option Value → ZS9 → Prop} {k : Nat} {x1 : Int32} {x2 : Int32} {x3 : Int32} {x4 : Int32} {x5 : Int32} {S : ZS9} (hK : RK G) (h : rwp_X12_rules_0 E l d b A G Q k x1 x2 x3 x4 x5 S) : zW E l mX12_rules d b A (rQ G Q) k 0 [some (.ref (zp 416 0)), some (.int x1), some (.int x2), some (.int x3), some (.int x4), some (.int x5)] [] (zput G S) := by
  unfold rwp_X12_rules_0 at h
  refine z_aload_n (pc' := 1) dX12_rules_0 rfl rfl ?_
  refine z_iconst (x := 0) (pc' := 2) dX12_rules_1 (by decide) rfl ?_
  obtain ⟨S1, hG⟩ : ∃ z, z = zup S 416 0 0 := ⟨_, rfl⟩
  have h := h _ hG
  refine r_putI (kf := 0) (pc' := 5) hK dX12_rules_2 kX12_178 rfl (by decide) (by decide) rfl rfl (zok_int _) ?_
  refine r_st hG ?_
  refine z_aload_n (pc' := 6) dX12_rules_5 rfl rfl ?_
  refine z_iload_n (pc' := 7) dX12_rules_6 rfl rfl ?_
  refine z_iconst (x := 1) (pc' := 8) dX12_rules_7 (by decide) rfl ?_
  refine z_sipush (x := 200) (pc' := 11) dX12_rules_8 (by decide) rfl ?_
  refine r_callSI (Y := mX12_in) (n := 3) (as := [.int x1, .int 1, .int 200]) (st := [.ref (zp 416 0)]) (pc' := 14) h dX12_rules_11 kX12_317 sX12_in rfl rfl (Nat.le_of_ble_eq_true rfl) (fun y2 h => ?_)
  refine z_if_eq (pt := 61) (pc' := 17) dX12_rules_14 (by decide) rfl (fun hc => ?_) (fun hc => ?_)
  · have h := h.1 hc
    refine z_iconst (x := 1) (pc' := 62) dX12_rules_61 (by decide) rfl ?_
    refine z_goto (pc' := 66) dX12_rules_62 (by decide) ?_
    exact z_dr (ls' := [some (.ref (zp 416 0)), some (.int x1), some (.int x2), some (.int x3), some (.int x4), some (.int x5)]) ⟨rfl, rfl, rfl, rfl, rfl, rfl, trivial⟩ h
  · have h := h.2 hc
    refine z_iload_n (pc' := 18) dX12_rules_17 rfl rfl ?_
    refine z_iconst (x := 0) (pc' := 19) dX12_rules_18 (by decide) rfl ?_
    refine z_sipush (x := 10000) (pc' := 22) dX12_rules_19 (by decide) rfl ?_
    refine r_callSI (Y := mX12_in) (n := 3) (as := [.int x2, .int 0, .int 10000]) (st := [.ref (zp 416 0)]) (pc' := 25) h dX12_rules_22 kX12_317 sX12_in rfl rfl (Nat.le_of_ble_eq_true rfl) (fun y3 h => ?_)
    refine z_if_eq (pt := 61) (pc' := 28) dX12_rules_25 (by decide) rfl (fun hc => ?_) (fun hc => ?_)
    · have h := h.1 hc
      refine z_iconst (x := 1) (pc' := 62) dX12_rules_61 (by decide) rfl ?_
      refine z_goto (pc' := 66) dX12_rules_62 (by decide) ?_
      exact z_dr (ls' := [some (.ref (zp 416 0)), some (.int x1), some (.int x2), some (.int x3), some (.int x4), some (.int x5)]) ⟨rfl, rfl, rfl, rfl, rfl, rfl, trivial⟩ h
    · have h := h.2 hc
      refine z_iload_n (pc' := 29) dX12_rules_28 rfl rfl ?_
      refine z_iconst (x := 0) (pc' := 30) dX12_rules_29 (by decide) rfl ?_
      refine z_sipush (x := 1000) (pc' := 33) dX12_rules_30 (by decide) rfl ?_
      refine r_callSI (Y := mX12_in) (n := 3) (as := [.int x3, .int 0, .int 1000]) (st := [.ref (zp 416 0)]) (pc' := 36) h dX12_rules_33 kX12_317 sX12_in rfl rfl (Nat.le_of_ble_eq_true rfl) (fun y4 h => ?_)
      refine z_if_eq (pt := 61) (pc' := 39) dX12_rules_36 (by decide) rfl (fun hc => ?_) (fun hc => ?_)
      · have h := h.1 hc
        refine z_iconst (x := 1) (pc' := 62) dX12_rules_61 (by decide) rfl ?_
        refine z_goto (pc' := 66) dX12_rules_62 (by decide) ?_
        exact z_dr (ls' := [some (.ref (zp 416 0)), some (.int x1), some (.int x2), some (.int x3), some (.int x4), some (.int x5)]) ⟨rfl, rfl, rfl, rfl, rfl, rfl, trivial⟩ h
      · have h := h.2 hc
        refine z_iload (pc' := 41) dX12_rules_39 rfl rfl ?_
        refine z_iconst (x := 0) (pc' := 42) dX12_rules_41 (by decide) rfl ?_
        refine z_bipush (x := 60) (pc' := 44) dX12_rules_42 (by decide) rfl ?_
        refine r_callSI (Y := mX12_in) (n := 3) (as := [.int x4, .int 0, .int 60]) (st := [.ref (zp 416 0)]) (pc' := 47) h dX12_rules_44 kX12_317 sX12_in rfl rfl (Nat.le_of_ble_eq_true rfl) (fun y5 h => ?_)
        refine z_if_eq (pt := 61) (pc' := 50) dX12_rules_47 (by decide) rfl (fun hc => ?_) (fun hc => ?_)
        · have h := h.1 hc
          refine z_iconst (x := 1) (pc' := 62) dX12_rules_61 (by decide) rfl ?_
          refine z_goto (pc' := 66) dX12_rules_62 (by decide) ?_
          exact z_dr (ls' := [some (.ref (zp 416 0)), some (.int x1), some (.int x2), some (.int x3), some (.int x4), some (.int x5)]) ⟨rfl, rfl, rfl, rfl, rfl, rfl, trivial⟩ h
        · have h := h.2 hc
          refine z_iload (pc' := 52) dX12_rules_50 rfl rfl ?_
          refine z_iconst (x := 0) (pc' := 53) dX12_rules_52 (by decide) rfl ?_
          refine z_bipush (x := 60) (pc' := 55) dX12_rules_53 (by decide) rfl ?_
          refine r_callSI (Y := mX12_in) (n := 3) (as := [.int x5, .int 0, .int 60]) (st := [.ref (zp 416 0)]) (pc' := 58) h dX12_rules_55 kX12_317 sX12_in rfl rfl (Nat.le_of_ble_eq_true rfl) (fun y6 h => ?_)
          refine z_if_ne (pt := 65) (pc' := 61) dX12_rules_58 (by decide) rfl (fun hc => ?_) (fun hc => ?_)
          · have h := h.1 hc
            refine z_iconst (x := 0) (pc' := 66) dX12_rules_65 (by decide) rfl ?_
            exact z_dr (ls' := [some (.ref (zp 416 0)), some (.int x1), some (.int x2), some (.int x3), some (.int x4), some (.int x5)]) ⟨rfl, rfl, rfl, rfl, rfl, rfl, trivial⟩ h
          · have h := h.2 hc
            refine z_iconst (x := 1) (pc' := 62) dX12_rules_61 (by decide) rfl ?_
            refine z_goto (pc' := 66) dX12_rules_62 (by decide) ?_
            exact z_dr (ls' := [some (.ref (zp 416 0)), some (.int x1), some (.int x2), some (.int x3), some (.int x4), some (.int x5)]) ⟨rfl, rfl, rfl, rfl, rfl, rfl, trivial⟩ h
def rwp_X12_rules_66 (E : ZE) (l : Launch) (d b : Nat) (A G : ZG) (Q : Option Value → ZS9 → Prop) (k : Nat) (x1 : Int32) (x2 : Int32) (x3 : Int32) (x4 : Int32) (x5 : Int32) (s0 : Int32) (S : ZS9) : Prop :=
  rcI E l mX12_throwsIf d [.int s0, .int 1] S k (fun y3 S1 k2 =>
  ((y3 = 0 →
    ∀ S4, S4 = zup S1 416 37 x1 →
    ∀ S5, S5 = zup S4 416 38 x2 →
    ∀ S6, S6 = zup S5 416 39 x3 →
    ∀ S7, S7 = zup S6 416 40 x4 →
    ∀ S8, S8 = zup S7 416 41 x5 →
    Q none S8) ∧
  (¬ (y3 = 0) →
    Q none S1)))
theorem rwpt_X12_rules_66 {E : ZE} {l : Launch} {d b : Nat} {A G : ZG} {Q : Option Value → ZS9 → Prop} {k : Nat} {x1 : Int32} {x2 : Int32} {x3 : Int32} {x4 : Int32} {x5 : Int32} {s0 : Int32} {S : ZS9} (hK : RK G) (h : rwp_X12_rules_66 E l d b A G Q k x1 x2 x3 x4 x5 s0 S) : zW E l mX12_rules d b A (rQ G Q) k 66 [some (.ref (zp 416 0)), some (.int x1), some (.int x2), some (.int x3), some (.int x4), some (.int x5)] [.int s0, .ref (zp 416 0)] (zput G S) := by
  unfold rwp_X12_rules_66 at h
  refine z_iconst (x := 1) (pc' := 67) dX12_rules_66 (by decide) rfl ?_
  refine r_callI (Y := mX12_throwsIf) (n := 2) (as := [.int s0, .int 1]) (st := []) (pc' := 70) h hK dX12_rules_67 kX12_321 vX12_throwsIf rfl rfl rfl (Nat.le_of_ble_eq_true rfl) (fun y3 S1 k2 h => ?_)
  refine z_if_eq (pt := 74) (pc' := 73) dX12_rules_70 (by decide) rfl (fun hc => ?_) (fun hc => ?_)
  · have h := h.1 hc
    refine z_aload_n (pc' := 75) dX12_rules_74 rfl rfl ?_
    refine z_iload_n (pc' := 76) dX12_rules_75 rfl rfl ?_
    obtain ⟨S4, hG⟩ : ∃ z, z = zup S1 416 37 x1 := ⟨_, rfl⟩
    have h := h _ hG
    refine r_putI (kf := 37) (pc' := 79) hK dX12_rules_76 kX12_76 rfl (by decide) (by decide) rfl rfl (zok_int _) ?_
    refine r_st hG ?_
    refine z_aload_n (pc' := 80) dX12_rules_79 rfl rfl ?_
    refine z_iload_n (pc' := 81) dX12_rules_80 rfl rfl ?_
    obtain ⟨S5, hG⟩ : ∃ z, z = zup S4 416 38 x2 := ⟨_, rfl⟩
    have h := h _ hG
    refine r_putI (kf := 38) (pc' := 84) hK dX12_rules_81 kX12_79 rfl (by decide) (by decide) rfl rfl (zok_int _) ?_
    refine r_st hG ?_
    refine z_aload_n (pc' := 85) dX12_rules_84 rfl rfl ?_
    refine z_iload_n (pc' := 86) dX12_rules_85 rfl rfl ?_
    obtain ⟨S6, hG⟩ : ∃ z, z = zup S5 416 39 x3 := ⟨_, rfl⟩
    have h := h _ hG
    refine r_putI (kf := 39) (pc' := 89) hK dX12_rules_86 kX12_82 rfl (by decide) (by decide) rfl rfl (zok_int _) ?_
    refine r_st hG ?_
    refine z_aload_n (pc' := 90) dX12_rules_89 rfl rfl ?_
    refine z_iload (pc' := 92) dX12_rules_90 rfl rfl ?_
    obtain ⟨S7, hG⟩ : ∃ z, z = zup S6 416 40 x4 := ⟨_, rfl⟩
    have h := h _ hG
    refine r_putI (kf := 40) (pc' := 95) hK dX12_rules_92 kX12_85 rfl (by decide) (by decide) rfl rfl (zok_int _) ?_
    refine r_st hG ?_
    refine z_aload_n (pc' := 96) dX12_rules_95 rfl rfl ?_
    refine z_iload (pc' := 98) dX12_rules_96 rfl rfl ?_
    obtain ⟨S8, hG⟩ : ∃ z, z = zup S7 416 41 x5 := ⟨_, rfl⟩
    have h := h _ hG
    refine r_putI (kf := 41) (pc' := 101) hK dX12_rules_98 kX12_88 rfl (by decide) (by decide) rfl rfl (zok_int _) ?_
    refine r_st hG ?_
    exact z_vret dX12_rules_101 rfl ⟨_, _, rfl, rfl, h⟩
  · have h := h.2 hc
    exact z_vret dX12_rules_73 rfl ⟨_, _, rfl, rfl, h⟩
def rwp_X12_sets_0 (E : ZE) (l : Launch) (d b : Nat) (A G : ZG) (Q : Option Value → ZS9 → Prop) (k : Nat) (x1 : Int32) (x2 : Int32) (x3 : Int32) (S : ZS9) : Prop :=
  vp_in ((7 * x1) + x2) 840 ∧
  ∀ S1, S1 = zup S 1165 ((7 * x1) + x2).toNatClampNeg x3 →
  Q none S1
theorem rwpt_X12_sets_0 {E : ZE} {l : Launch} {d b : Nat} {A G : ZG} {Q : Option Value → ZS9 → Prop} {k : Nat} {x1 : Int32} {x2 : Int32} {x3 : Int32} {S : ZS9} (hK : RK G) (h : rwp_X12_sets_0 E l d b A G Q k x1 x2 x3 S) : zW E l mX12_sets d b A (rQ G Q) k 0 [some (.ref (zp 416 0)), some (.int x1), some (.int x2), some (.int x3)] [] (zput G S) := by
  unfold rwp_X12_sets_0 at h
  refine z_aload_n (pc' := 1) dX12_sets_0 rfl rfl ?_
  refine r_getA (kf := 65) (pc' := 4) hK rt_65 dX12_sets_1 kX12_148 rfl (by decide) (by decide) rfl ?_
  refine z_bipush (x := 7) (pc' := 6) dX12_sets_4 (by decide) rfl ?_
  refine z_iload_n (pc' := 7) dX12_sets_6 rfl rfl ?_
  refine z_imul (pc' := 8) dX12_sets_7 rfl rfl ?_
  refine z_iload_n (pc' := 9) dX12_sets_8 rfl rfl ?_
  refine z_iadd (pc' := 10) dX12_sets_9 rfl rfl ?_
  refine z_iload_n (pc' := 11) dX12_sets_10 rfl rfl ?_
  obtain ⟨h1, h⟩ := h
  obtain ⟨S1, hG⟩ : ∃ z, z = zup S 1165 ((7 * x1) + x2).toNatClampNeg x3 := ⟨_, rfl⟩
  have h := h _ hG
  refine r_iast (pc' := 12) hK rt_65 rfl dX12_sets_11 rfl h1  ?_
  refine r_st hG ?_
  exact z_vret dX12_sets_12 rfl ⟨_, _, rfl, rfl, h⟩
def rwp_X12_sign_0 (E : ZE) (l : Launch) (d b : Nat) (A G : ZG) (Q : Option Value → ZS9 → Prop) (k : Nat) (x1 : Int32) (x2 : Int32) (S : ZS9) : Prop :=
  ∀ S1, S1 = zup S 416 0 0 →
  rcI E l mX12_nobody d [.int x1] S1 k (fun y4 S2 k3 =>
  rcI E l mX12_throwsIf d [.int y4, .int 1] S2 k3 (fun y7 S5 k6 =>
  ((y7 = 0 →
    vp_in x1 80 ∧
    (((S5 2133 x1.toNatClampNeg) = 0 →
      Q (some (.int (-1))) S5) ∧
    (¬ ((S5 2133 x1.toNatClampNeg) = 0) →
      scI E l mX12_in d [.int x2, .int 0, .int 23] (fun y8 =>
      ((y8 = 0 →
        Q (some (.int (-1))) S5) ∧
      (¬ (y8 = 0) →
        vp_in ((24 * x1) + x2) 1920 ∧
        Q (some (.int (S5 1132 ((24 * x1) + x2).toNatClampNeg))) S5)))))) ∧
  (¬ (y7 = 0) →
    Q (some (.int 0)) S5))))
theorem rwpt_X12_sign_0 {E : ZE} {l : Launch} {d b : Nat} {A G : ZG} {Q : Option Value → ZS9 → Prop} {k : Nat} {x1 : Int32} {x2 : Int32} {S : ZS9} (hK : RK G) (h : rwp_X12_sign_0 E l d b A G Q k x1 x2 S) : zW E l mX12_sign d b A (rQ G Q) k 0 [some (.ref (zp 416 0)), some (.int x1), some (.int x2)] [] (zput G S) := by
  unfold rwp_X12_sign_0 at h
  refine z_aload_n (pc' := 1) dX12_sign_0 rfl rfl ?_
  refine z_iconst (x := 0) (pc' := 2) dX12_sign_1 (by decide) rfl ?_
  obtain ⟨S1, hG⟩ : ∃ z, z = zup S 416 0 0 := ⟨_, rfl⟩
  have h := h _ hG
  refine r_putI (kf := 0) (pc' := 5) hK dX12_sign_2 kX12_178 rfl (by decide) (by decide) rfl rfl (zok_int _) ?_
  refine r_st hG ?_
  refine z_aload_n (pc' := 6) dX12_sign_5 rfl rfl ?_
  refine z_aload_n (pc' := 7) dX12_sign_6 rfl rfl ?_
  refine z_iload_n (pc' := 8) dX12_sign_7 rfl rfl ?_
  refine r_callI (Y := mX12_nobody) (n := 1) (as := [.int x1]) (st := [.ref (zp 416 0)]) (pc' := 11) h hK dX12_sign_8 kX12_385 vX12_nobody rfl rfl rfl (Nat.le_of_ble_eq_true rfl) (fun y4 S2 k3 h => ?_)
  refine z_iconst (x := 1) (pc' := 12) dX12_sign_11 (by decide) rfl ?_
  refine r_callI (Y := mX12_throwsIf) (n := 2) (as := [.int y4, .int 1]) (st := []) (pc' := 15) h hK dX12_sign_12 kX12_321 vX12_throwsIf rfl rfl rfl (Nat.le_of_ble_eq_true rfl) (fun y7 S5 k6 h => ?_)
  refine z_if_eq (pt := 22) (pc' := 18) dX12_sign_15 (by decide) rfl (fun hc => ?_) (fun hc => ?_)
  · have h := h.1 hc
    refine z_aload_n (pc' := 23) dX12_sign_22 rfl rfl ?_
    refine r_getA (kf := 33) (pc' := 26) hK rt_33 dX12_sign_23 kX12_67 rfl (by decide) (by decide) rfl ?_
    refine z_iload_n (pc' := 27) dX12_sign_26 rfl rfl ?_
    obtain ⟨h1, h⟩ := h
    refine r_zald (pc' := 28) hK rt_33 rfl dX12_sign_27 rfl h1 ?_
    refine z_if_eq (pt := 55) (pc' := 31) dX12_sign_28 (by decide) rfl (fun hc => ?_) (fun hc => ?_)
    · have h := h.1 hc
      refine z_iconst (x := (-1)) (pc' := 56) dX12_sign_55 (by decide) rfl ?_
      exact z_iret dX12_sign_56 rfl ⟨_, _, rfl, rfl, h⟩
    · have h := h.2 hc
      refine z_iload_n (pc' := 32) dX12_sign_31 rfl rfl ?_
      refine z_iconst (x := 0) (pc' := 33) dX12_sign_32 (by decide) rfl ?_
      refine z_bipush (x := 23) (pc' := 35) dX12_sign_33 (by decide) rfl ?_
      refine r_callSI (Y := mX12_in) (n := 3) (as := [.int x2, .int 0, .int 23]) (st := []) (pc' := 38) h dX12_sign_35 kX12_317 sX12_in rfl rfl (Nat.le_of_ble_eq_true rfl) (fun y8 h => ?_)
      refine z_if_eq (pt := 55) (pc' := 41) dX12_sign_38 (by decide) rfl (fun hc => ?_) (fun hc => ?_)
      · have h := h.1 hc
        refine z_iconst (x := (-1)) (pc' := 56) dX12_sign_55 (by decide) rfl ?_
        exact z_iret dX12_sign_56 rfl ⟨_, _, rfl, rfl, h⟩
      · have h := h.2 hc
        refine z_aload_n (pc' := 42) dX12_sign_41 rfl rfl ?_
        refine r_getA (kf := 32) (pc' := 45) hK rt_32 dX12_sign_42 kX12_64 rfl (by decide) (by decide) rfl ?_
        refine z_bipush (x := 24) (pc' := 47) dX12_sign_45 (by decide) rfl ?_
        refine z_iload_n (pc' := 48) dX12_sign_47 rfl rfl ?_
        refine z_imul (pc' := 49) dX12_sign_48 rfl rfl ?_
        refine z_iload_n (pc' := 50) dX12_sign_49 rfl rfl ?_
        refine z_iadd (pc' := 51) dX12_sign_50 rfl rfl ?_
        obtain ⟨h1, h⟩ := h
        refine r_iald (pc' := 52) hK rt_32 rfl dX12_sign_51 rfl h1 ?_
        refine z_goto (pc' := 56) dX12_sign_52 (by decide) ?_
        exact z_iret dX12_sign_56 rfl ⟨_, _, rfl, rfl, h⟩
  · have h := h.2 hc
    refine z_iconst (x := 0) (pc' := 19) dX12_sign_18 (by decide) rfl ?_
    refine z_goto (pc' := 56) dX12_sign_19 (by decide) ?_
    exact z_iret dX12_sign_56 rfl ⟨_, _, rfl, rfl, h⟩
