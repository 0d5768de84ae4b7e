/-! names -/
def zgap (c : Int32) : Prop := c = 32 ∨ c = 45
def rturn (c : Int32) : Int32 :=
  if ¬ c < 65 ∧ ¬ 90 < c then c else if ¬ c < 97 ∧ ¬ 122 < c then c - 32 else if c = 32 ∨ c = 45 then 60 else if c = 196 ∨ c = 198 ∨ c = 228 ∨ c = 230 then 17729 else if c = 197 ∨ c = 229 then 16705 else if c = 199 ∨ c = 231 then 67 else if c = 200 ∨ c = 201 ∨ c = 232 ∨ c = 233 then 69 else if c = 209 ∨ c = 241 then 78 else if c = 214 ∨ c = 216 ∨ c = 246 ∨ c = 248 then 17743 else if c = 220 ∨ c = 252 then 17749 else if c = 223 then 21331 else 0
/-- how a sign is written -/
def sgn (c : Int32) : List Int32 := if rturn c < 256 then [rturn c - rturn c / 256 * 256] else [rturn c - rturn c / 256 * 256, rturn c / 256]
def zwas (w : Nat → Int32) (i : Nat) : Int32 := if i = 0 then 32 else w (i - 1)
def nbad (w : Nat → Int32) (i : Nat) : Prop := i = 24 ∨ rturn (w i) = 0 ∨ (zgap (w i) ∧ zgap (zwas w i))
/-- the first wrong byte from i on, m being left -/
noncomputable def nmE (w : Nat → Int32) : Nat → Nat → Option Nat
  | 0, i => @ite _ (zgap (zwas w i)) (Classical.propDecidable _) (some i) none
  | m + 1, i => @ite _ (nbad w i) (Classical.propDecidable _) (some i) (nmE w m (i + 1))
def ztrn (w : Nat → Int32) : Nat → List Int32
  | 0 => []
  | i + 1 => ztrn w i ++ sgn (w i)
theorem nmE_t {w : Nat → Int32} {m i : Nat} (h : nbad w i) : nmE w (m + 1) i = some i := if_pos h
theorem nmE_f {w : Nat → Int32} {m i : Nat} (h : ¬ nbad w i) : nmE w (m + 1) i = nmE w m (i + 1) := if_neg h
theorem nmE_0t {w : Nat → Int32} {i : Nat} (h : zgap (zwas w i)) : nmE w 0 i = some i := if_pos h
theorem nmE_0f {w : Nat → Int32} {i : Nat} (h : ¬ zgap (zwas w i)) : nmE w 0 i = none := if_neg h
theorem sgn_len (c : Int32) : (sgn c).length ≤ 2 := by
  unfold sgn
  split <;> simp
def wtape (S : ZS9) : Nat → Int32 := fun j => S 1602 j &&& 255
def znameR (S : ZS9) (p : Nat) (L : List Int32) : ZS9 := fun t k => if t = 1132 ∧ 24 * p ≤ k ∧ k < 24 * p + 24 then (if k - 24 * p < L.length then latI L (k - 24 * p) else 60) else if t = 2133 ∧ k = p then 1 else S t k
def zuse (S : ZS9) : ZS9 := zup S 416 3 0
noncomputable def fName (S : ZS9) (p : Int32) : ZO := fCalls3 (¬ zin p (nP S)) (1, 0, zuse S) (match nmE (wtape S) (nTp S) 0 with
  | some i => (2, 0, zup (zuse S) 416 8 (Int32.ofNat i))
  | none => (0, Int32.ofNat (ztrn (wtape S) (nTp S)).length, zup (znameR (zuse S) p.toNatClampNeg (ztrn (wtape S) (nTp S))) 416 8 (-1)))
section ZRn
variable {E : ZE} {l : Launch} {S : ZS9} {G : ZG}
theorem s_turnOf (c : Int32) : zMet E l mX12_turnOf 1 0 [.int c] G (zI (rturn c) G) := by
  refine z_meth (by decide) (Nat.le_of_ble_eq_true rfl) (by simp [Value.category]) (wpt_X12_turnOf_0 ?_); unfold wp_X12_turnOf_0
  refine xcI_of (d1 := 0) (b1 := 0) (s_in _ _ _) (by decide) (Nat.zero_le _) ⟨fun h => ?_, fun h => ?_⟩
  · have h := zb_0.mp h
    unfold inn at h
    refine xcI_of (d1 := 0) (b1 := 0) (s_in _ _ _) (by decide) (Nat.zero_le _) ⟨fun h2 => ?_, fun h2 => ?_⟩
    · have h2 := zb_0.mp h2
      unfold inn at h2
      have e : rturn c = if c = 32 ∨ c = 45 then 60 else if c = 196 ∨ c = 198 ∨ c = 228 ∨ c = 230 then 17729 else if c = 197 ∨ c = 229 then 16705 else if c = 199 ∨ c = 231 then 67 else if c = 200 ∨ c = 201 ∨ c = 232 ∨ c = 233 then 69 else if c = 209 ∨ c = 241 then 78 else if c = 214 ∨ c = 216 ∨ c = 246 ∨ c = 248 then 17743 else if c = 220 ∨ c = 252 then 17749 else if c = 223 then 21331 else 0 := by
        unfold rturn; rw [if_neg h, if_neg h2]
      rw [e]
      refine ⟨fun c1 => ⟨?_, rfl⟩, fun c1 => ⟨?_, rfl⟩, fun c1 => ⟨?_, rfl⟩, fun c1 => ⟨?_, rfl⟩, fun c1 => ⟨?_, rfl⟩, fun c1 => ⟨?_, rfl⟩, fun c1 => ⟨?_, rfl⟩, fun c1 => ⟨?_, rfl⟩, fun c1 => ⟨?_, rfl⟩, fun c1 c2 c3 c4 c5 c6 c7 c8 c9 => ⟨?_, rfl⟩⟩
      · rcases c1 with rfl | rfl <;> rfl
      · rcases c1 with rfl | rfl | rfl | rfl <;> rfl
      · rcases c1 with rfl | rfl <;> rfl
      · rcases c1 with rfl | rfl <;> rfl
      · rcases c1 with rfl | rfl | rfl | rfl <;> rfl
      · rcases c1 with rfl | rfl <;> rfl
      · rcases c1 with rfl | rfl | rfl | rfl <;> rfl
      · rcases c1 with rfl | rfl <;> rfl
      · subst c1; rfl
      · rw [if_neg c1, if_neg c2, if_neg c3, if_neg c4, if_neg c5, if_neg c6, if_neg c7, if_neg c8, if_neg c9]
    · have h2 : inn c 97 122 := Classical.not_not.mp (fun z => h2 (zbz z))
      unfold inn at h2
      refine ⟨?_, rfl⟩
      unfold rturn; rw [if_neg h, if_pos h2]
  · have h : inn c 65 90 := Classical.not_not.mp (fun z => h (zbz z))
    unfold inn at h
    refine ⟨?_, rfl⟩
    unfold rturn; rw [if_pos h]
theorem r_uses : rMet E l mX12_uses 0 0 [] S (rW (fun S' => S' 416 0 = 0 ∧ S' 416 5 = S 416 3 ∧ S' 416 4 = 0 ∧ zsim (zuse S) S')) := by
  refine r_meth (by decide) (Nat.le_of_ble_eq_true rfl) (by simp [Value.category]) (fun G hK => rwpt_X12_uses_0 hK ?_); unfold rwp_X12_uses_0
  intro S1 e1 S2 e2 S3 e3 S4 e4
  refine ⟨rfl, ?_, ?_, ?_, ?_⟩
  · rw [e4, zup_ne (by omega), e3, zup_ne (by omega), e2, zup_ne (by omega), e1, zup_s]
  · rw [e4, zup_ne (by omega), e3, zup_ne (by omega), e2, zup_s, e1, zup_ne (by omega)]
  · rw [e4, zup_s]
  · rw [e4, e3, e2, e1]
    exact zsim.up (zsim.cg (zsim.up (zs0 zsim.rf) (by unfold zscr; omega))) (by unfold zscr; omega)
theorem r_readName {n : Nat} {w : Nat → Int32} (hn : S 416 5 = Int32.ofNat n) (hl : n ≤ 400) (hw : ∀ j, j < n → S 1602 j &&& 255 = w j) : rMet E l mX12_readName 2 0 [] S (rX (fun y S' => (∀ t k, ¬ (t = 1136 ∨ (t = 416 ∧ (k = 4 ∨ k = 6))) → S' t k = S t k) ∧
    (match nmE w n 0 with
    | some i => y = -1 ∧ S' 416 6 = Int32.ofNat i
    | none => y = Int32.ofNat (ztrn w n).length ∧ (ztrn w n).length ≤ 48 ∧ ∀ j, j < (ztrn w n).length → S' 1136 j = latI (ztrn w n) j))) := by
  refine r_meth (by decide) (Nat.le_of_ble_eq_true rfl) (by simp [Value.category]) (fun G hK => rwpt_X12_readName_0 hK ?_); unfold rwp_X12_readName_0
  intro S1 e1
  generalize hQ : (rX (fun y S' => (∀ t k, ¬ (t = 1136 ∨ (t = 416 ∧ (k = 4 ∨ k = 6))) → S' t k = S t k) ∧ (match nmE w n 0 with
    | some i => y = -1 ∧ S' 416 6 = Int32.ofNat i
    | none => y = Int32.ofNat (ztrn w n).length ∧ (ztrn w n).length ≤ 48 ∧ ∀ j, j < (ztrn w n).length → S' 1136 j = latI (ztrn w n) j))) = Q
  have bad : ∀ i T, nmE w n 0 = some i → (∀ t k, ¬ (t = 1136 ∨ (t = 416 ∧ (k = 4 ∨ k = 6))) → T t k = S t k) → T 416 6 = Int32.ofNat i → Q (some (.int (-1))) T := by
    intro i T h1 h2 h3
    rw [← hQ]
    refine ⟨_, rfl, h2, ?_⟩
    rw [h1]; exact ⟨rfl, h3⟩
  have key : ∀ i, i ≤ n → nmE w (n - i) i = nmE w n 0 → i ≤ 24 → (ztrn w i).length ≤ 2 * i → ∀ T, (∀ t k, ¬ (t = 1136 ∨ (t = 416 ∧ (k = 4 ∨ k = 6))) → T t k = S t k) → T 416 4 = Int32.ofNat i → (∀ j, j < (ztrn w i).length → T 1136 j = latI (ztrn w i) j) → ∀ k, zW E l mX12_readName 2 0 (zput G S) (rQ G Q) k 10 [some (.ref (zp 416 0)), some (.int (Int32.ofNat (ztrn w i).length)), some (.int (zwas w i)), none, none] [] (zput G T) := by
    refine zdown (fun he hi24 hlen T hT1 hT2 hT3 k => ?_) (fun i hi ih he hi24 hlen T hT1 hT2 hT3 k => ?_)
    · refine rwpt_X12_readName_10 hK ?_; unfold rwp_X12_readName_10
      rw [hT2, hT1 416 5 (by omega), hn]
      refine it (by rw [n_le (by omega) (by omega)]; omega) (fun U eU => sI (fun _ => s_isGap _) (by decide) ?_)
      rw [Nat.sub_self] at he
      have hU1 : ∀ t k, ¬ (t = 1136 ∨ (t = 416 ∧ (k = 4 ∨ k = 6))) → U t k = S t k := fun t k hc => by rw [eU, zup_ne (by omega)]; exact hT1 t k hc
      have hU6 : U 416 6 = Int32.ofNat n := by rw [eU, zup_s]
      refine ⟨fun h => ?_, fun h => ?_⟩
      · have h := zb_0.mp h
        rw [nmE_0f h] at he
        rw [← hQ]
        refine ⟨_, rfl, hU1, ?_⟩
        rw [← he]
        refine ⟨rfl, by omega, fun j hj => ?_⟩
        rw [eU, zup_ne (by omega)]; exact hT3 j hj
      · have h : zgap (zwas w n) := Classical.not_not.mp (fun z => h (zbz z))
        rw [nmE_0t h] at he
        exact bad n U he.symm hU1 hU6
    · refine rwpt_X12_readName_10 hK ?_; unfold rwp_X12_readName_10
      rw [hT2, hT1 416 5 (by omega), hn, n_nn (by omega), hT1 1602 i (by omega), hw i hi]
      refine ie (by rw [n_le (by omega) (by omega)]; omega) ⟨n_in (by omega) (by omega), sI (fun _ => s_turnOf _) (by decide) (fun U eU => ?_)⟩
      have hU1 : ∀ t k, ¬ (t = 1136 ∨ (t = 416 ∧ (k = 4 ∨ k = 6))) → U t k = S t k := fun t k hc => by rw [eU, zup_ne (by omega)]; exact hT1 t k hc
      have hU6 : U 416 6 = Int32.ofNat i := by rw [eU, zup_s]
      have hU4 : U 416 4 = Int32.ofNat i := by rw [eU, zup_ne (by omega), hT2]
      have hUd : ∀ j, j < (ztrn w i).length → U 1136 j = latI (ztrn w i) j := fun j hj => by rw [eU, zup_ne (by omega)]; exact hT3 j hj
      have hni : n - i = (n - (i + 1)) + 1 := by omega
      rw [hni] at he
      rw [hU4, show (24 : Int32) = Int32.ofNat 24 from rfl, n_inj (by omega) (by omega)]
      have no : nbad w i → Q (some (.int (-1))) U := fun h => by
        rw [nmE_t h] at he
        exact bad i U he.symm hU1 hU6
      have yes : ¬ nbad w i → zW E l mX12_readName 2 0 (zput G S) (rQ G Q) k 79 [some (.ref (zp 416 0)), some (.int (Int32.ofNat (ztrn w i).length)), none, some (.int (w i)), some (.int (rturn (w i)))] [] (zput G U) := by
        intro h
        rw [nmE_f h] at he
        have hne24 : i ≠ 24 := fun e => h (Or.inl e)
        have hs : ztrn w (i + 1) = ztrn w i ++ sgn (w i) := rfl
        have hl1 : (ztrn w (i + 1)).length = (ztrn w i).length + (sgn (w i)).length := by rw [hs, List.length_append]
        have hw1 : zwas w (i + 1) = w i := rfl
        have h2 := sgn_len (w i)
        have ih := ih he (by omega) (by omega)
        rw [hw1] at ih
        generalize ztrn w i = L at *
        generalize ztrn w (i + 1) = L1 at *
        refine rwpt_X12_readName_79 hK ?_; unfold rwp_X12_readName_79
        rw [n_nn (by omega)]
        refine ⟨n_in (by omega) (by omega), fun V1 f1 => ⟨fun h3 V2 f2 => ?_, fun h3 => ?_⟩⟩
        · have hsg : sgn (w i) = [rturn (w i) - rturn (w i) / 256 * 256] := by unfold sgn; rw [if_pos h3]
          rw [hsg] at hs hl1
          have hl2 : L1.length = L.length + 1 := hl1
          rw [hl2] at ih
          rw [n_p1]
          refine ih V2 (fun t k hc => ?_) ?_ (fun j hj => ?_) _
          · rw [f2, zup_ne (by omega), f1, zup_ne (by omega)]; exact hU1 t k hc
          · rw [f2, zup_s, f1, zup_ne (by omega), hU4, n_p1]
          · rw [f2, zup_ne (by omega), f1, hs, latI_app]
            by_cases c : j < L.length
            · rw [zup_ne (by omega), if_pos c]; exact hUd j c
            · rw [if_neg c, show j = L.length by omega, zup_s, Nat.sub_self, latI_c0]
        · have hsg : sgn (w i) = [rturn (w i) - rturn (w i) / 256 * 256, rturn (w i) / 256] := by unfold sgn; rw [if_neg h3]
          rw [hsg] at hs hl1
          have hl2 : L1.length = L.length + 2 := hl1
          rw [hl2] at ih
          rw [n_p1, n_nn (by omega), n_p1]
          refine ⟨n_in (by omega) (by omega), fun V3 f3 V4 f4 => ih V4 (fun t k hc => ?_) ?_ (fun j hj => ?_) _⟩
          · rw [f4, zup_ne (by omega), f3, zup_ne (by omega), f1, zup_ne (by omega)]; exact hU1 t k hc
          · rw [f4, zup_s, f3, zup_ne (by omega), f1, zup_ne (by omega), hU4, n_p1]
          · rw [f4, zup_ne (by omega), f3, f1, hs, latI_app]
            by_cases c : j < L.length
            · rw [zup_ne (by omega), zup_ne (by omega), if_pos c]; exact hUd j c
            · rw [if_neg c]
              by_cases c2 : j = L.length
              · rw [c2, zup_ne (by omega), zup_s, Nat.sub_self, latI_c0]
              · rw [show j = L.length + 1 by omega, zup_s, show L.length + 1 - L.length = 0 + 1 by omega, latI_cs, latI_c0]
      refine ⟨fun h => no (Or.inl h), fun h => ⟨fun h2 => no (Or.inr (Or.inl h2)), fun h2 => sI (fun _ => s_isGap _) (by decide) ⟨fun h3 => yes ?_, fun h3 => sI (fun _ => s_isGap _) (by decide) ⟨fun h4 => yes ?_, fun h4 => no ?_⟩⟩⟩⟩
      · rintro (z | z | z)
        · exact h z
        · exact h2 z
        · exact (zb_0.mp h3) z.1
      · rintro (z | z | z)
        · exact h z
        · exact h2 z
        · exact (zb_0.mp h4) z.2
      · exact Or.inr (Or.inr ⟨Classical.not_not.mp (fun z => h3 (zbz z)), Classical.not_not.mp (fun z => h4 (zbz z))⟩)
  exact key 0 (by omega) rfl (by omega) (Nat.le_refl _) S1 (fun t k hc => by rw [e1, zup_ne (by omega)]) (by rw [e1, zup_s]; rfl) (fun j hj => nomatch hj) _
theorem r_name (hR : RI S) (hT : S 416 3 = Int32.ofNat (nTp S) ∧ nTp S ≤ 400) (x : Int32) : rMet E l mX12_name 3 0 [.int x] S (rR (fName S x)) := by
  have hP := hR.2.1
  refine r_meth (by decide) (Nat.le_of_ble_eq_true rfl) (by simp [Value.category]) (fun G hK => rwpt_X12_name_0 hK ?_); unfold rwp_X12_name_0
  refine gW r_uses (by decide) ?_
  rintro S1 ⟨u0, u5, u4, us⟩
  have z1 : ∀ t k, ¬ zscr t k → ¬ (t = 416 ∧ k = 3) → S1 t k = S t k := fun t k hc h3 => by rw [us t k hc]; exact zup_ne h3
  refine gI (r_nobody (n := nP S) x (by rw [z1 _ _ (by unfold zscr; omega) (by omega), hP.1]) (by omega)) (by decide) (gT (by decide) (fun h => ie (by decide) ?_) (fun h => it rfl ?_))
  · unfold fName; rw [f3t h]; exact rR1 us (by decide)
  · obtain ⟨p, hp, rfl⟩ := zin_of (Classical.not_not.mp h) (by omega)
    have ef : fName S (Int32.ofNat p) = (match nmE (wtape S) (nTp S) 0 with
      | some i => (2, 0, zup (zuse S) 416 8 (Int32.ofNat i))
      | none => (0, Int32.ofNat (ztrn (wtape S) (nTp S)).length, zup (znameR (zuse S) p (ztrn (wtape S) (nTp S))) 416 8 (-1))) := by unfold fName; rw [f3f h, n_nn (by omega)]
    rw [ef]
    refine gX (r_readName (n := nTp S) (w := wtape S) (by rw [u5, hT.1]) hT.2 (fun j hj => by rw [z1 1602 j (by unfold zscr; omega) (by omega)]; rfl)) (by decide) ?_
    rintro y S2 ⟨y1, y2⟩
    have s2 : zsim (zuse S) S2 := fun t k hc => by rw [y1 t k (by unfold zscr at hc; omega)]; exact us t k hc
    have t2 : S2 416 0 = 0 := by rw [y1 _ _ (by omega), u0]
    cases hz : nmE (wtape S) (nTp S) 0 with
    | some i =>
      rw [hz] at y2
      obtain ⟨rfl, y3⟩ := y2
      refine ie (by decide) ?_
      refine rwpt_X12_name_37 hK ?_; unfold rwp_X12_name_37
      intro S3 e3
      refine ie (by decide) (gI (r_thr1 _) (by decide) (ie (by decide) ?_))
      rw [e3, y3]
      exact rR1 s2.cg (by decide)
    | none =>
      rw [hz] at y2
      obtain ⟨rfl, y3, y4⟩ := y2
      generalize ztrn (wtape S) (nTp S) = L at *
      have hge : (0 : Int32) ≤ Int32.ofNat L.length := by rw [show (0 : Int32) = Int32.ofNat 0 from rfl, n_le (by omega) (by omega)]; omega
      refine it hge ?_
      refine rwpt_X12_name_37 hK ?_; unfold rwp_X12_name_37
      intro S3 e3
      rw [n_nn (by omega)]
      refine it hge (gI (r_thr0 _) (by decide) (it rfl ⟨n_in (by omega) (by omega), fun S4 e4 => ?_⟩))
      have key : ∀ i, i ≤ 24 → ∀ T, (∀ t k, T t k = if t = 1132 ∧ 24 * p ≤ k ∧ k < 24 * p + i then (if k - 24 * p < L.length then latI L (k - 24 * p) else 60) else S4 t k) → ∀ k, zW E l mX12_name 3 0 (zput G S) (rQ G (rR (0, Int32.ofNat L.length, zup (znameR (zuse S) p L) 416 8 (-1)))) k 68 [some (.ref (zp 416 0)), some (.int (Int32.ofNat p)), some (.int (Int32.ofNat L.length)), some (.int (Int32.ofNat i))] [] (zput G T) := by
        refine zdown (fun T hTe k => ?_) (fun i hi ih T hTe k => ?_)
        · refine rwpt_X12_name_68 hK ?_; unfold rwp_X12_name_68
          refine it (by decide) (rR0 (fun t j hc => ?_) ?_ rfl)
          · rw [hTe]
            unfold znameR
            by_cases c : t = 1132 ∧ 24 * p ≤ j ∧ j < 24 * p + 24
            · rw [if_pos c, zup_ne (by omega), if_pos c]
            · rw [if_neg c, e4]
              by_cases c2 : t = 2133 ∧ j = p
              · obtain ⟨rfl, rfl⟩ := c2; rw [zup_s, zup_ne (by omega), if_neg c, if_pos ⟨rfl, rfl⟩]
              · rw [zup_ne c2, e3]
                by_cases c3 : t = 416 ∧ j = 8
                · obtain ⟨rfl, rfl⟩ := c3; rw [zup_s, zup_s]
                · rw [zup_ne c3, zup_ne c3, if_neg c, if_neg c2]; exact s2 t j hc
          · rw [hTe, if_neg (by omega), e4, zup_ne (by omega), e3, zup_ne (by omega), t2]
        · refine rwpt_X12_name_68 hK ?_; unfold rwp_X12_name_68
          rw [n_nn (by omega), show (24 : Int32) = Int32.ofNat 24 from rfl, n_mul, n_add, n_nn (by omega), n_p1, n_le (by omega) (by omega), n_le (by omega) (by omega)]
          have next : ∀ U v, U = zup T 1132 (24 * p + i) v → v = (if i < L.length then latI L i else 60) → ∀ t j, U t j = if t = 1132 ∧ 24 * p ≤ j ∧ j < 24 * p + (i + 1) then (if j - 24 * p < L.length then latI L (j - 24 * p) else 60) else S4 t j := by
            intro U v hU hv t j
            rw [hU]
            by_cases c : t = 1132 ∧ j = 24 * p + i
            · obtain ⟨rfl, rfl⟩ := c
              rw [zup_s, if_pos ⟨rfl, by omega, by omega⟩, show 24 * p + i - 24 * p = i by omega]; exact hv
            · rw [zup_ne c, hTe]
              by_cases c2 : t = 1132 ∧ 24 * p ≤ j ∧ j < 24 * p + i
              · rw [if_pos c2, if_pos (show t = 1132 ∧ 24 * p ≤ j ∧ j < 24 * p + (i + 1) by omega)]
              · rw [if_neg c2, if_neg (show ¬ (t = 1132 ∧ 24 * p ≤ j ∧ j < 24 * p + (i + 1)) by omega)]
          refine ie (by omega) ⟨fun h2 => ⟨n_in (by omega) (by omega), fun U eU => ih U (next U _ eU (by rw [if_neg (by omega)])) _⟩, fun h2 => ⟨n_in (by omega) (by omega), n_in (by omega) (by omega), fun U eU => ih U (next U _ eU ?_) _⟩⟩
          rw [if_pos (by omega), hTe, if_neg (by omega), e4, zup_ne (by omega), e3, zup_ne (by omega)]
          exact y4 i (by omega)
      exact key 0 (by omega) S4 (fun t j => by rw [if_neg (by omega)]) _
end ZRn
