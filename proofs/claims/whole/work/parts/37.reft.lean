/-! law; holds -/
section ZPc
variable {S : ZS9} {C : List ZCD} {b dd : Int32} {p i : Nat}
theorem zps_c6 (h : i < C.length) : zps S C b p dd 1116 (4800 + i) = (zcat C i).1 := by
  unfold zps
  rw [if_neg (by omega), if_neg (by omega), if_neg (by omega), if_neg (by omega), if_pos ⟨rfl, by omega, by omega⟩, show 4800 + i - 4800 = i by omega]
theorem zps_c7 (h : i < C.length) : zps S C b p dd 1117 (4800 + i) = (zcat C i).2.1 := by
  unfold zps
  rw [if_neg (by omega), if_neg (by omega), if_neg (by omega), if_neg (by omega), if_neg (by omega), if_pos ⟨rfl, by omega, by omega⟩, show 4800 + i - 4800 = i by omega]
theorem zps_c8 (h : i < C.length) : zps S C b p dd 1118 (4800 + i) = (zcat C i).2.2 := by
  unfold zps
  rw [if_neg (by omega), if_neg (by omega), if_neg (by omega), if_neg (by omega), if_neg (by omega), if_neg (by omega), if_pos ⟨rfl, by omega, by omega⟩, show 4800 + i - 4800 = i by omega]
end ZPc
/-- the copies of rows of the draft -/
def zcpA (U : ZS9) (j i : Nat) : ZS9 := fun t k => if (t = 1112 ∨ t = 1113 ∨ t = 1114 ∨ t = 1115) ∧ 16 * j ≤ k ∧ k < 16 * j + i then U t (192 + (k - 16 * j)) else U t k
def zcpB (U : ZS9) (j i : Nat) : ZS9 := fun t k => if (t = 1116 ∨ t = 1117 ∨ t = 1118) ∧ 400 * j ≤ k ∧ k < 400 * j + i then U t (4800 + (k - 400 * j)) else U t k
theorem zcpA_no {U : ZS9} {j i t k : Nat} (h : ¬ ((t = 1112 ∨ t = 1113 ∨ t = 1114 ∨ t = 1115) ∧ 16 * j ≤ k ∧ k < 16 * j + i)) : zcpA U j i t k = U t k := if_neg h
theorem zcpB_no {U : ZS9} {j i t k : Nat} (h : ¬ ((t = 1116 ∨ t = 1117 ∨ t = 1118) ∧ 400 * j ≤ k ∧ k < 400 * j + i)) : zcpB U j i t k = U t k := if_neg h
theorem zcpA_s {U : ZS9} {j i : Nat} : zup (zup (zup (zup (zcpA U j i) 1112 (16 * j + i) (U 1112 (192 + i))) 1113 (16 * j + i) (U 1113 (192 + i))) 1114 (16 * j + i) (U 1114 (192 + i))) 1115 (16 * j + i) (U 1115 (192 + i)) = zcpA U j (i + 1) := by
  funext t k
  by_cases hk : k = 16 * j + i
  · subst hk
    by_cases c5 : t = 1115
    · subst c5; rw [zup_s]; unfold zcpA; rw [if_pos ⟨by omega, by omega, by omega⟩, show 16 * j + i - 16 * j = i by omega]
    rw [zup_ne (by omega)]
    by_cases c4 : t = 1114
    · subst c4; rw [zup_s]; unfold zcpA; rw [if_pos ⟨by omega, by omega, by omega⟩, show 16 * j + i - 16 * j = i by omega]
    rw [zup_ne (by omega)]
    by_cases c3 : t = 1113
    · subst c3; rw [zup_s]; unfold zcpA; rw [if_pos ⟨by omega, by omega, by omega⟩, show 16 * j + i - 16 * j = i by omega]
    rw [zup_ne (by omega)]
    by_cases c2 : t = 1112
    · subst c2; rw [zup_s]; unfold zcpA; rw [if_pos ⟨by omega, by omega, by omega⟩, show 16 * j + i - 16 * j = i by omega]
    rw [zup_ne (by omega)]
    unfold zcpA; rw [if_neg (by omega), if_neg (by omega)]
  · rw [zup_ne (by omega), zup_ne (by omega), zup_ne (by omega), zup_ne (by omega)]
    unfold zcpA
    by_cases c : (t = 1112 ∨ t = 1113 ∨ t = 1114 ∨ t = 1115) ∧ 16 * j ≤ k ∧ k < 16 * j + i
    · rw [if_pos c, if_pos ⟨c.1, c.2.1, by omega⟩]
    · rw [if_neg c, if_neg (fun z => c ⟨z.1, z.2.1, by omega⟩)]
theorem zcpB_s {U : ZS9} {j i : Nat} : zup (zup (zup (zcpB U j i) 1116 (400 * j + i) (U 1116 (4800 + i))) 1117 (400 * j + i) (U 1117 (4800 + i))) 1118 (400 * j + i) (U 1118 (4800 + i)) = zcpB U j (i + 1) := by
  funext t k
  by_cases hk : k = 400 * j + i
  · subst hk
    by_cases c4 : t = 1118
    · subst c4; rw [zup_s]; unfold zcpB; rw [if_pos ⟨by omega, by omega, by omega⟩, show 400 * j + i - 400 * j = i by omega]
    rw [zup_ne (by omega)]
    by_cases c3 : t = 1117
    · subst c3; rw [zup_s]; unfold zcpB; rw [if_pos ⟨by omega, by omega, by omega⟩, show 400 * j + i - 400 * j = i by omega]
    rw [zup_ne (by omega)]
    by_cases c2 : t = 1116
    · subst c2; rw [zup_s]; unfold zcpB; rw [if_pos ⟨by omega, by omega, by omega⟩, show 400 * j + i - 400 * j = i by omega]
    rw [zup_ne (by omega)]
    unfold zcpB; rw [if_neg (by omega), if_neg (by omega)]
  · rw [zup_ne (by omega), zup_ne (by omega), zup_ne (by omega)]
    unfold zcpB
    by_cases c : (t = 1116 ∨ t = 1117 ∨ t = 1118) ∧ 400 * j ≤ k ∧ k < 400 * j + i
    · rw [if_pos c, if_pos ⟨c.1, c.2.1, by omega⟩]
    · rw [if_neg c, if_neg (fun z => c ⟨z.1, z.2.1, by omega⟩)]
section ZRt
variable {E : ZE} {l : Launch} {S : ZS9}
/-- the tape's bytes -/
def TB (S : ZS9) : Prop := (S 416 3 = Int32.ofNat (nTp S) ∧ nTp S ≤ 400) ∧ ∀ j, j < nTp S → ∃ m, m < 256 ∧ S 1602 j = sx m
theorem r_law (hT : TB S) (hL : S 416 19 = Int32.ofNat (nL S) ∧ nL S ≤ 12) (from' : Int32) : rMet E l mX12_law 52 0 [.int from'] S (QL S from') := by
  refine r_meth (by decide) (Nat.le_of_ble_eq_true rfl) (by simp [Value.category]) (fun G hK => rwpt_X12_law_0 hK ?_); unfold rwp_X12_law_0
  refine gW r_uses (by decide) ?_
  rintro S1 ⟨u0, u5, u4, us⟩
  have z1 : ∀ t k, ¬ zscr t k → ¬ (t = 416 ∧ k = 3) → S1 t k = S t k := fun t k hc h3 => by rw [us t k hc]; exact zup_ne h3
  have hX : TX S1 (wtape S) (nTp S) := by
    refine ⟨by rw [u5, hT.1.1], hT.1.2, fun j hj => ?_⟩
    obtain ⟨m, hm, e⟩ := hT.2 j hj
    refine ⟨m, hm, by rw [z1 _ _ (by unfold zscr; omega) (by omega), e], ?_⟩
    unfold wtape; rw [e, sx_and m hm]
  have e1 : S1 416 1 = S 416 1 := z1 _ _ (by unfold zscr; omega) (by omega)
  have e19 : S1 416 19 = Int32.ofNat (nL S) := by rw [z1 _ _ (by unfold zscr; omega) (by omega), hL.1]
  have hlx : ∀ S4, (∀ t k, ¬ zlx t k → S4 t k = S1 t k) → zsim (zuse S) S4 := fun S4 h t k hc => by rw [h t k (fun z => hc (zlx_scr z))]; exact us t k hc
  have good : inn from' (S 416 1) 1000 → ∀ k, rcI E l mX12_readLaw 52 [] S1 k (fun y6 S4 k5 =>
    ((0 ≤ y6 →
      ∀ S7, S7 = zup S4 416 8 (-1) →
      ((0 ≤ y6 →
        zW E l mX12_law 52 0 (zput G S) (rQ G (QL S from')) k5 64 [some (.ref (zp 416 0)), some (.int from'), some (.int y6), none] [.int 0, .ref (zp 416 0)] (zput G S7)) ∧
      (¬ (0 ≤ y6) →
        zW E l mX12_law 52 0 (zput G S) (rQ G (QL S from')) k5 64 [some (.ref (zp 416 0)), some (.int from'), some (.int y6), none] [.int 1, .ref (zp 416 0)] (zput G S7)))) ∧
    (¬ (0 ≤ y6) →
      ∀ S8, S8 = zup S4 416 8 (S4 416 6) →
      ((0 ≤ y6 →
        zW E l mX12_law 52 0 (zput G S) (rQ G (QL S from')) k5 64 [some (.ref (zp 416 0)), some (.int from'), some (.int y6), none] [.int 0, .ref (zp 416 0)] (zput G S8)) ∧
      (¬ (0 ≤ y6) →
        zW E l mX12_law 52 0 (zput G S) (rQ G (QL S from')) k5 64 [some (.ref (zp 416 0)), some (.int from'), some (.int y6), none] [.int 1, .ref (zp 416 0)] (zput G S8)))))) := by
    intro hf k
    refine gX (r_readLaw hX u4) (by decide) (fun y S4 hq => ?_)
    cases hr : zLaw (wtape S) (nTp S) with
    | inl e =>
      rw [hr] at hq
      obtain ⟨rfl, q1, q2⟩ := hq
      refine ie (by decide) (fun S8 e8 => ie (by decide) ?_)
      refine rwpt_X12_law_64 hK ?_; unfold rwp_X12_law_64
      refine gI (r_thr1 _) (by decide) (it (by decide) ⟨_, rfl, fun h => absurd hf h, fun _ => ?_⟩)
      rw [hr]
      exact ⟨zup_s _ _ _ _, by rw [e8, q1]; exact zs0 (hlx S4 q2).cg⟩
    | inr L =>
      rw [hr] at hq
      obtain ⟨rfl, l16, l400, T, b, p, d, rfl, hrow, hTf⟩ := hq
      have hge : (0 : Int32) ≤ Int32.ofNat L.length := by rw [show (0 : Int32) = Int32.ofNat 0 from rfl, n_le (by omega) (by omega)]; omega
      refine it hge (fun S7 e7 => it hge ?_)
      have s7 : zsim (zup (zuse S) 416 8 (-1)) S7 := by
        rw [e7]
        refine zsim.cg (fun t k hc => ?_)
        rw [zps_o (fun z => hc (zlx_scr (Or.inl z))), hTf t k (fun z => hc (zlx_scr z))]
        exact us t k hc
      have u7 : ∀ k, k ≠ 4 → k ≠ 6 → k ≠ 7 → k ≠ 20 → k ≠ 8 → S7 416 k = S1 416 k := fun k h1 h2 h3 h4 h5 => by
        rw [e7, zup_ne (by omega), zps_o (by unfold zpx; omega), hTf _ _ (by unfold zlx zpx; omega)]
      have t7 : S7 416 0 = 0 := by rw [u7 0 (by omega) (by omega) (by omega) (by omega) (by omega), u0]
      have l7 : S7 416 19 = Int32.ofNat (nL S) := by rw [u7 19 (by omega) (by omega) (by omega) (by omega) (by omega), e19]
      have c7 : S7 416 20 = Int32.ofNat (zflat L).length := by rw [e7, zup_ne (by omega), zps_20]
      have r7 : ∀ t m, t = 1112 ∨ t = 1113 ∨ t = 1114 ∨ t = 1115 → S7 t (192 + m) = T t (192 + m) := fun t m ht => by rw [e7, zup_ne (by omega), zps_o (by unfold zpx; omega)]
      have d6 : ∀ i, i < (zflat L).length → S7 1116 (4800 + i) = (zcat (zflat L) i).1 := fun i hi => by rw [e7, zup_ne (by omega), zps_c6 hi]
      have d7 : ∀ i, i < (zflat L).length → S7 1117 (4800 + i) = (zcat (zflat L) i).2.1 := fun i hi => by rw [e7, zup_ne (by omega), zps_c7 hi]
      have d8 : ∀ i, i < (zflat L).length → S7 1118 (4800 + i) = (zcat (zflat L) i).2.2 := fun i hi => by rw [e7, zup_ne (by omega), zps_c8 hi]
      clear e7
      have cut86 : ∀ s0, s0 = zb (nL S = 12) → ∀ k, zW E l mX12_law 52 0 (zput G S) (rQ G (QL S from')) k 86 [some (.ref (zp 416 0)), some (.int from'), some (.int (Int32.ofNat L.length)), none] [.int s0, .ref (zp 416 0)] (zput G S7) := by
        intro s0 hs k
        refine rwpt_X12_law_86 hK ?_; unfold rwp_X12_law_86
        rw [hs]
        refine gT (by decide) (fun h => ie (by decide) ⟨_, rfl, fun z => absurd hf z, fun _ => ?_⟩) (fun h => it rfl ?_)
        · rw [hr]
          exact ⟨fun _ => ⟨zup_s _ _ _ _, zs0 s7⟩, fun z => absurd h z⟩
        · have hn12 : nL S < 12 := by have := hL.2; omega
          have e0 : ∀ y S', y = Int32.ofNat L.length → (S' 416 0 = 0 ∧ S' 1110 (nL S) = from' ∧ zLS S' (nL S) L ∧ zsimL (nL S) (zup (zup (zuse S) 416 8 (-1)) 416 19 (S 416 19 + 1)) S') → QL S from' (some (.int y)) S' := by
            rintro y S' hy ⟨g1, g2, g3, g4⟩
            refine ⟨y, rfl, fun z => absurd hf z, fun _ => ?_⟩
            rw [hr]
            exact ⟨fun z => absurd z h, fun _ => ⟨g1, hy, g2, g3, g4⟩⟩
          rw [l7, n_nn (by omega)]
          refine ⟨n_in (by omega) (by omega), fun V4 f4 => ?_⟩
          have l4 : V4 416 19 = Int32.ofNat (nL S) := by rw [f4, zup_ne (by omega), l7]
          rw [l4, n_nn (by omega)]
          refine ⟨n_in (by omega) (by omega), fun V5 f5 => ?_⟩
          have v5 : ∀ t k, t ≠ 1110 → t ≠ 1111 → V5 t k = S7 t k := fun t k h1 h2 => by rw [f5, zup_ne (by omega), f4, zup_ne (by omega)]
          have v10 : V5 1110 (nL S) = from' := by rw [f5, zup_ne (by omega), f4, zup_s]
          have v11 : V5 1111 (nL S) = Int32.ofNat L.length := by rw [f5, zup_s]
          have v1x : ∀ t k, k ≠ nL S → V5 t k = S7 t k := fun t k h => by rw [f5, zup_ne (by omega), f4, zup_ne (by omega)]
          clear f5 f4 l4 V4
          generalize hj : nL S = j at *
          -- the second copying
          have lB : ∀ i, i ≤ (zflat L).length → ∀ k, zW E l mX12_law 52 0 (zput G S) (rQ G (QL S from')) k 226 [some (.ref (zp 416 0)), none, some (.int (Int32.ofNat L.length)), some (.int (Int32.ofNat i))] [] (zput G (zcpB (zcpA V5 j L.length) j i)) := by
            have w19 : ∀ i, zcpB (zcpA V5 j L.length) j i 416 19 = Int32.ofNat j := fun i => by rw [zcpB_no (by omega), zcpA_no (by omega), v5 _ _ (by omega) (by omega), l7]
            have w20 : ∀ i, zcpB (zcpA V5 j L.length) j i 416 20 = Int32.ofNat (zflat L).length := fun i => by rw [zcpB_no (by omega), zcpA_no (by omega), v5 _ _ (by omega) (by omega), c7]
            refine zdown (fun k => ?_) (fun i hi ih k => ?_)
            · refine rwpt_X12_law_226 hK ?_; unfold rwp_X12_law_226
              refine it (by rw [w20, n_le (by omega) (by omega)]; omega) (fun W1 g1 => e0 _ _ rfl ⟨?_, ?_, ⟨?_, l16, l400, fun m hm => ?_, fun i hi => ⟨?_, ?_, ?_⟩⟩, fun t k hc hs => ?_⟩)
              · rw [g1, zup_ne (by omega), zcpB_no (by omega), zcpA_no (by omega), v5 _ _ (by omega) (by omega), t7]
              · rw [g1, zup_ne (by omega), zcpB_no (by omega), zcpA_no (by omega), v10]
              · rw [g1, zup_ne (by omega), zcpB_no (by omega), zcpA_no (by omega), v11]
              · have hg : ∀ t, t = 1112 ∨ t = 1113 ∨ t = 1114 ∨ t = 1115 → W1 t (16 * j + m) = T t (192 + m) := fun t ht => by
                  rw [g1, zup_ne (by omega), zcpB_no (by omega)]
                  unfold zcpA
                  rw [if_pos ⟨ht, by omega, by omega⟩, show 16 * j + m - 16 * j = m by omega, v5 _ _ (by omega) (by omega), r7 _ _ ht]
                obtain ⟨r1, r2, r3, r4⟩ := hrow m hm
                unfold zrow
                rw [hg _ (by omega), hg _ (by omega), hg _ (by omega), hg _ (by omega)]
                exact ⟨r1, r2, r3, r4⟩
              · rw [g1, zup_ne (by omega)]; unfold zcpB
                rw [if_pos ⟨by omega, by omega, by omega⟩, show 400 * j + i - 400 * j = i by omega, zcpA_no (by omega), v5 _ _ (by omega) (by omega), d6 i hi]
              · rw [g1, zup_ne (by omega)]; unfold zcpB
                rw [if_pos ⟨by omega, by omega, by omega⟩, show 400 * j + i - 400 * j = i by omega, zcpA_no (by omega), v5 _ _ (by omega) (by omega), d7 i hi]
              · rw [g1, zup_ne (by omega)]; unfold zcpB
                rw [if_pos ⟨by omega, by omega, by omega⟩, show 400 * j + i - 400 * j = i by omega, zcpA_no (by omega), v5 _ _ (by omega) (by omega), d8 i hi]
              · rw [g1]
                by_cases c : t = 416 ∧ k = 19
                · obtain ⟨rfl, rfl⟩ := c
                  rw [zup_s, zup_s, w19, hL.1]
                · rw [zup_ne c, zup_ne c, zcpB_no (fun z => hs (Or.inr (Or.inr ⟨z.1, z.2.1, by have := z.2.2; omega⟩))), zcpA_no (fun z => hs (Or.inr (Or.inl ⟨z.1, z.2.1, by have := z.2.2; omega⟩)))]
                  by_cases c2 : k = j
                  · rw [v5 t k (fun e => hs (Or.inl ⟨Or.inl e, c2⟩)) (fun e => hs (Or.inl ⟨Or.inr e, c2⟩))]; exact s7 t k hc
                  · rw [v1x t k c2]; exact s7 t k hc
            · refine rwpt_X12_law_226 hK ?_; unfold rwp_X12_law_226
              rw [w19, w20, show (4800 : Int32) = Int32.ofNat 4800 from rfl, show (400 : Int32) = Int32.ofNat 400 from rfl, n_mul, n_add, n_add, n_nn (by omega), n_nn (by omega), n_p1 i]
              refine ie (by rw [n_le (by omega) (by omega)]; omega) ⟨n_in (by omega) (by omega), n_in (by omega) (by omega), fun W2 g2 => ?_⟩
              have x2 : W2 416 19 = Int32.ofNat j := by rw [g2, zup_ne (by omega), w19]
              rw [x2, n_mul, n_add, n_nn (by omega)]
              refine ⟨n_in (by omega) (by omega), n_in (by omega) (by omega), fun W3 g3 => ?_⟩
              have x3 : W3 416 19 = Int32.ofNat j := by rw [g3, zup_ne (by omega), x2]
              rw [x3, n_mul, n_add, n_nn (by omega)]
              refine ⟨n_in (by omega) (by omega), n_in (by omega) (by omega), fun W4 g4 => ?_⟩
              have e9 : W4 = zcpB (zcpA V5 j L.length) j (i + 1) := by
                rw [← zcpB_s, g4, g3, g2]
                rw [zup_ne (S := zup (zcpB (zcpA V5 j L.length) j i) 1116 _ _) (a := 1118) (by omega), zup_ne (a := 1118) (by omega), zup_ne (a := 1117) (by omega), zcpB_no (t := 1116) (k := 4800 + i) (by omega), zcpB_no (t := 1117) (k := 4800 + i) (by omega), zcpB_no (t := 1118) (k := 4800 + i) (by omega)]
              rw [e9]
              exact ih _
          have lA : ∀ i, i ≤ L.length → ∀ k, zW E l mX12_law 52 0 (zput G S) (rQ G (QL S from')) k 117 [some (.ref (zp 416 0)), none, some (.int (Int32.ofNat L.length)), some (.int (Int32.ofNat i))] [] (zput G (zcpA V5 j i)) := by
            have w19 : ∀ i, zcpA V5 j i 416 19 = Int32.ofNat j := fun i => by rw [zcpA_no (by omega), v5 _ _ (by omega) (by omega), l7]
            have eB : zcpB (zcpA V5 j L.length) j 0 = zcpA V5 j L.length := by
              funext t k
              exact zcpB_no (by omega)
            refine zdown (fun k => ?_) (fun i hi ih k => ?_)
            · refine rwpt_X12_law_117 hK ?_; unfold rwp_X12_law_117
              have := lB 0 (by omega)
              rw [eB] at this
              exact it (by rw [n_le (by omega) (by omega)]; omega) (this _)
            · refine rwpt_X12_law_117 hK ?_; unfold rwp_X12_law_117
              rw [w19, show (192 : Int32) = Int32.ofNat 192 from rfl, show (16 : Int32) = Int32.ofNat 16 from rfl, n_mul, n_add, n_add, n_nn (by omega), n_nn (by omega), n_p1 i]
              refine ie (by rw [n_le (by omega) (by omega)]; omega) ⟨n_in (by omega) (by omega), n_in (by omega) (by omega), fun W2 g2 => ?_⟩
              have x2 : W2 416 19 = Int32.ofNat j := by rw [g2, zup_ne (by omega), w19]
              rw [x2, n_mul, n_add, n_nn (by omega)]
              refine ⟨n_in (by omega) (by omega), n_in (by omega) (by omega), fun W3 g3 => ?_⟩
              have x3 : W3 416 19 = Int32.ofNat j := by rw [g3, zup_ne (by omega), x2]
              rw [x3, n_mul, n_add, n_nn (by omega)]
              refine ⟨n_in (by omega) (by omega), n_in (by omega) (by omega), fun W4 g4 => ?_⟩
              have x4 : W4 416 19 = Int32.ofNat j := by rw [g4, zup_ne (by omega), x3]
              rw [x4, n_mul, n_add, n_nn (by omega)]
              refine ⟨n_in (by omega) (by omega), n_in (by omega) (by omega), fun W5 g5 => ?_⟩
              have e9 : W5 = zcpA V5 j (i + 1) := by
                rw [← zcpA_s, g5, g4, g3, g2]
                rw [zup_ne (S := zup (zup (zcpA V5 j i) 1112 _ _) 1113 _ _) (a := 1115) (by omega), zup_ne (S := zup (zcpA V5 j i) 1112 _ _) (a := 1115) (by omega), zup_ne (a := 1115) (by omega), zup_ne (S := zup (zcpA V5 j i) 1112 _ _) (a := 1114) (by omega), zup_ne (a := 1114) (by omega), zup_ne (a := 1113) (by omega), zcpA_no (t := 1112) (k := 192 + i) (by omega), zcpA_no (t := 1113) (k := 192 + i) (by omega), zcpA_no (t := 1114) (k := 192 + i) (by omega), zcpA_no (t := 1115) (k := 192 + i) (by omega)]
              rw [e9]
              exact ih _
          have := lA 0 (by omega)
          rw [show zcpA V5 j 0 = V5 from by funext t k; exact zcpA_no (by omega)] at this
          exact this _
      refine rwpt_X12_law_64 hK ?_; unfold rwp_X12_law_64
      refine gI (r_thr0 _) (by decide) (ie (by decide) ?_)
      rw [l7, show (12 : Int32) = Int32.ofNat 12 from rfl, n_inj (by omega) (by omega)]
      exact ⟨fun h => cut86 0 (zbz h).symm _, fun h => cut86 1 (zb_t (Classical.not_not.mp h)).symm _⟩
  rw [e1]
  refine sI (fun _ => s_in _ _ _) (by decide) ⟨fun h => ?_, fun h => ?_⟩
  · have h : inn from' (S 416 1) 1000 := Classical.not_not.mp (fun z => h (zbz z))
    refine rwpt_X12_law_24 hK ?_; unfold rwp_X12_law_24
    exact gI (r_thr0 _) (by decide) (it rfl (good h _))
  · have h : ¬ inn from' (S 416 1) 1000 := zb_0.mp (Classical.not_not.mp h)
    refine rwpt_X12_law_24 hK ?_; unfold rwp_X12_law_24
    exact gI (r_thr1 _) (by decide) (ie (by decide) ⟨_, rfl, fun _ => ⟨zup_s _ _ _ _, zs0 us⟩, fun z => absurd z h⟩)
end ZRt
