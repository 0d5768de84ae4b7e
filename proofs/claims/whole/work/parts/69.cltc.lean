/-! names: the marked letters, what is wrong, what is written -/
def mkf (c : Int32) : Nat → Nat → Nat
  | 0, i => i
  | m + 1, i => if (mrk[i]?).getD 0 = c then i else mkf c m (i + 1)
/-- the number of a marked letter; 21 if it is none -/
def mkn (c : Int32) : Nat := mkf c 21 0
theorem mkf_le {c : Int32} : ∀ {m i : Nat}, i ≤ mkf c m i ∧ mkf c m i ≤ i + m
  | 0, i => ⟨Nat.le_refl _, Nat.le_refl _⟩
  | m + 1, i => by
    unfold mkf
    split
    · omega
    · have := mkf_le (c := c) (m := m) (i := i + 1); omega
def isltr (c : Int32) : Prop := (¬ c < 97 ∧ c ≤ 122) ∨ (¬ c < 65 ∧ ¬ 90 < c)
/-- how the class writes a sign -/
def wrt (c : Int32) : List Int32 := if mkn c < 21 then (if zstc 8 (mkn c) = 32 then [zstc 7 (mkn c)] else [zstc 7 (mkn c), zstc 8 (mkn c)]) else if c = 32 ∨ c = 45 then [60] else if c < 97 then [c] else [(c - 97) + 65]
theorem wrt_sgn : ∀ m, m < 256 → ¬ rturn (Int32.ofNat m) = 0 → wrt (Int32.ofNat m) = sgn (Int32.ofNat m) := by
  unfold wrt sgn rturn
  decide +kernel
theorem rturn_0 : ∀ m, m < 256 → (rturn (Int32.ofNat m) = 0 ↔ (mkn (Int32.ofNat m) = 21 ∧ ¬ (Int32.ofNat m = 32 ∨ Int32.ofNat m = 45) ∧ ¬ ((¬ Int32.ofNat m < 97 ∧ Int32.ofNat m ≤ 122) ∨ (¬ Int32.ofNat m < 65 ∧ ¬ 90 < Int32.ofNat m)))) := by
  unfold rturn
  decide +kernel
theorem mkn_gap : ∀ c : Int32, c = 32 ∨ c = 45 → mkn c = 21 := by
  rintro c (rfl | rfl) <;> decide +kernel
section ZDc
variable {E : ZE} {l : Launch} {K : ZG} {w m n1 m1 : Nat} {S S' : ZS9} {r : Int32} {X X' : ZG}
theorem c_marked (hW : PWm K X) (c : Int32) : zMet E l mX5_markedNumber 0 0 [.int c] X (zI (if mkn c = 21 then -1 else Int32.ofNat (mkn c)) X) := by
  obtain ⟨-, w1, w2, w3, -⟩ := hW
  refine z_meth (by decide) (Nat.le_of_ble_eq_true rfl) (by simp [Value.category]) (wpt_X5_markedNumber_0 ?_); unfold wp_X5_markedNumber_0
  have key : ∀ i, i ≤ 21 → mkf c (21 - i) i = mkn c → ∀ k, zW E l mX5_markedNumber 0 0 X (zI (if mkn c = 21 then -1 else Int32.ofNat (mkn c)) X) k 2 [some (.int c), some (.int (Int32.ofNat i))] [] X := by
    refine zdown (fun he k => ?_) (fun i hi ih he k => ?_)
    · refine wpt_X5_markedNumber_2 ?_; unfold wp_X5_markedNumber_2
      rw [w2]
      have he : 21 = mkn c := he
      refine ⟨Or.inr w1, it (by decide) ⟨?_, rfl⟩⟩
      rw [if_pos he.symm]
    · have e1 : mkf c (21 - i) i = if (mrk[i]?).getD 0 = c then i else mkf c (21 - (i + 1)) (i + 1) := by
        rw [show 21 - i = (21 - (i + 1)) + 1 by omega]; rfl
      rw [e1] at he
      refine wpt_X5_markedNumber_2 ?_; unfold wp_X5_markedNumber_2
      rw [w2, n_nn (by omega), w3 i hi, n_p1]
      refine ⟨Or.inr w1, ie (by rw [n_le (by omega) (by omega)]; omega) ⟨Or.inr w1, n_in hi (by omega), fun c1 => ?_, fun c1 => ⟨?_, rfl⟩⟩⟩
      · rw [if_neg c1] at he; exact ih he k
      · rw [if_pos (Classical.not_not.mp c1)] at he
        rw [← he, if_neg (by omega)]
  exact key 0 (by omega) rfl _
theorem c_isGapC (c : Int32) : zMet E l mX5_isGap 0 0 [.int c] X (zI (zb (zgap c)) X) := by
  unfold zgap
  refine z_meth (by decide) (Nat.le_of_ble_eq_true rfl) (by simp [Value.category]) (wpt_X5_isGap_0 ?_); unfold wp_X5_isGap_0
  refine ⟨fun h => ⟨by rw [zb_t (Or.inl h)], rfl⟩, fun h => ⟨fun h2 => ⟨?_, rfl⟩, fun h2 => ⟨by rw [zb_t (Or.inr (Classical.not_not.mp h2))], rfl⟩⟩⟩
  rw [zbz (fun z => z.elim h h2)]
theorem c_isLetter (c : Int32) : zMet E l mX5_isLetter 0 0 [.int c] X (zI (zb (isltr c)) X) := by
  unfold isltr
  refine z_meth (by decide) (Nat.le_of_ble_eq_true rfl) (by simp [Value.category]) (wpt_X5_isLetter_0 ?_); unfold wp_X5_isLetter_0
  refine ⟨fun h => ⟨fun h2 => ⟨?_, rfl⟩, fun h2 => ⟨fun h3 => ⟨?_, rfl⟩, fun h3 => ⟨?_, rfl⟩⟩⟩, fun h => ⟨fun h2 => ⟨?_, rfl⟩, fun h2 => ⟨fun h3 => ⟨?_, rfl⟩, fun h3 => ⟨fun h4 => ⟨?_, rfl⟩, fun h4 => ⟨?_, rfl⟩⟩⟩⟩⟩
  · rw [zbz (fun z => z.elim (fun z => z.1 h) (fun z => z.1 h2))]
  · rw [zbz (fun z => z.elim (fun z => z.1 h) (fun z => z.2 h3))]
  · rw [zb_t (Or.inr ⟨h2, h3⟩)]
  · rw [zb_t (Or.inl ⟨h, h2⟩)]
  · rw [zbz (fun z => z.elim (fun z => h2 z.2) (fun z => z.1 h3))]
  · rw [zbz (fun z => z.elim (fun z => h2 z.2) (fun z => z.2 h4))]
  · rw [zb_t (Or.inr ⟨h3, h4⟩)]
/-- a text of n bytes in a row of ints -/
def TXc (X : ZG) (q n : Nat) (v : Nat → Int32) : Prop := zar X q 0 ∧ zln X q = n ∧ n ≤ 400 ∧ (∀ j, j < n → ziv X q j = v j) ∧ ∀ j, j < n → ∃ m, m < 256 ∧ v j = Int32.ofNat m
def zfw (o : Option Nat) : Int32 := match o with
  | none => -1
  | some i => Int32.ofNat i
theorem c_firstWrong (hW : PWm K X) {q n : Nat} {v : Nat → Int32} (hX : TXc X q n v) : zMet E l mX5_firstWrong 1 0 [.ref q] X (zI (zfw (nmE v n 0)) X) := by
  obtain ⟨x1, x2, x3, x4, x5⟩ := hX
  refine z_meth (by decide) (Nat.le_of_ble_eq_true rfl) (by simp [Value.category]) (wpt_X5_firstWrong_0 ?_); unfold wp_X5_firstWrong_0
  have key : ∀ i, i ≤ n → nmE v (n - i) i = nmE v n 0 → i ≤ 24 → ∀ g k, (g = 0 ↔ ¬ zgap (zwas v i)) → zW E l mX5_firstWrong 1 0 X (zI (zfw (nmE v n 0)) X) k 4 [some (.ref q), some (.int g), some (.int (Int32.ofNat i)), none] [] X := by
    refine zdown (fun he h24 g k hg => ?_) (fun i hi ih he h24 g k hg => ?_)
    · rw [Nat.sub_self] at he
      refine wpt_X5_firstWrong_4 ?_; unfold wp_X5_firstWrong_4
      rw [x2]
      refine ⟨Or.inl x1, it (by rw [n_le (by omega) (by omega)]; omega) ⟨fun h0 => ⟨?_, rfl⟩, fun h0 => ⟨Or.inl x1, ?_, rfl⟩⟩⟩
      · rw [← he, nmE_0f (hg.mp h0)]; rfl
      · rw [← he, nmE_0t (Classical.byContradiction fun z => h0 (hg.mpr z))]; rfl
    · rw [show n - i = (n - (i + 1)) + 1 by omega] at he
      obtain ⟨m, hm, em⟩ := x5 i hi
      have r0 := rturn_0 m hm
      rw [← em] at r0
      have bad : nbad v i → zI (zfw (nmE v n 0)) X (.inl (some (.int (Int32.ofNat i)))) X := fun hb => by
        rw [← he, nmE_t hb]; exact ⟨rfl, rfl⟩
      have next : ¬ nbad v i → ∀ g2, (g2 = 0 ↔ ¬ zgap (v i)) → ∀ k, zW E l mX5_firstWrong 1 0 X (zI (zfw (nmE v n 0)) X) k 4 [some (.ref q), some (.int g2), some (.int (Int32.ofNat i + 1)), none] [] X := fun hb g2 hg2 k => by
        rw [n_p1]
        rw [nmE_f hb] at he
        refine ih he ?_ g2 k ?_
        · have : i ≠ 24 := fun e => hb (Or.inl e)
          omega
        · show g2 = 0 ↔ ¬ zgap (if i + 1 = 0 then 32 else v (i + 1 - 1))
          rw [if_neg (by omega)]; exact hg2
      have rest : ¬ i = 24 → ¬ (zgap (v i) ∧ zgap (zwas v i)) → ∀ k, zW E l mX5_firstWrong 1 0 X (zI (zfw (nmE v n 0)) X) k 33 [some (.ref q), none, some (.int (Int32.ofNat i)), some (.int (zb (zgap (v i))))] [] X := fun h1 h2 k => by
        have nb : ¬ rturn (v i) = 0 → ¬ nbad v i := fun z y => y.elim h1 (fun y => y.elim z h2)
        refine wpt_X5_firstWrong_33 ?_; unfold wp_X5_firstWrong_33
        rw [x2, n_nn (by omega), x4 i hi]
        refine ⟨fun c => ?_, fun c => ⟨Or.inl x1, n_in hi (by omega), cI (c_isLetter _) (by decide) ⟨fun c2 => ?_, fun c2 => ?_⟩⟩⟩
        · exact next (nb (fun z => (r0.mp z).2.1 (Classical.byContradiction fun y => c (zbz y)))) _ zb_0 _
        · exact next (nb (fun z => (r0.mp z).2.2 (Classical.byContradiction fun y => c2 (zbz y)))) _ zb_0 _
        · have c := zb_0.mp (Classical.not_not.mp c)
          have c2 := zb_0.mp (Classical.not_not.mp c2)
          rw [x2, x4 i hi]
          refine ⟨Or.inl x1, n_in hi (by omega), cI (c_marked hW _) (by decide) ⟨fun c3 => ?_, fun c3 => ?_⟩⟩
          · exact next (nb (fun z => c3 (by rw [if_pos (r0.mp z).1]))) _ zb_0 _
          · have c3 := Classical.not_not.mp c3
            refine bad (Or.inr (Or.inl (r0.mpr ⟨?_, c, c2⟩)))
            refine Classical.byContradiction fun z => ?_
            rw [if_neg z] at c3
            have hle := (mkf_le (c := v i) (m := 21) (i := 0)).2
            have : ¬ Int32.ofNat (mkn (v i)) < 0 := n_neg (by unfold mkn; omega)
            rw [c3] at this
            exact this (by decide)
      refine wpt_X5_firstWrong_4 ?_; unfold wp_X5_firstWrong_4
      rw [x2, n_nn (by omega), x4 i hi]
      refine ⟨Or.inl x1, ie (by rw [n_le (by omega) (by omega)]; omega) ⟨Or.inl x1, n_in hi (by omega), cI (c_isGapC _) (by decide) ⟨fun c => ?_, fun c => ?_⟩⟩⟩
      · rw [show (24 : Int32) = Int32.ofNat 24 from rfl, n_le (by omega) (by omega)] at c
        exact bad (Or.inl (by omega))
      · rw [show (24 : Int32) = Int32.ofNat 24 from rfl, n_le (by omega) (by omega)] at c
        refine ⟨fun c2 => rest (by omega) (fun z => zb_0.mp c2 z.1) _, fun c2 => ⟨fun c3 => rest (by omega) (fun z => hg.mp c3 z.2) _, fun c3 => bad (Or.inr (Or.inr ⟨?_, ?_⟩))⟩⟩
        · exact Classical.byContradiction fun y => c2 (zbz y)
        · exact Classical.byContradiction fun y => c3 (hg.mpr y)
  exact key 0 (by omega) rfl (by omega) 1 _ ⟨fun z => absurd z (by decide), fun z => absurd (Or.inl rfl) z⟩
/-- a name that is being written: L so far -/
def NMw (X : ZG) (i j : Nat) (L : List Int32) : Prop := zob X (zp 192 i) 6 ∧ zrv X (zp 192 i) 0 = zp 1032 j ∧ zar X (zp 1032 j) 0 ∧ zln X (zp 1032 j) = 24 ∧ ziv X (zp 192 i) 1 = Int32.ofNat L.length ∧ ∀ k, k < 24 → ziv X (zp 1032 j) k = if k < L.length then latI L k else 60
/-- only the name at i and its row at j have changed -/
def NMf (X X' : ZG) (i j : Nat) : Prop := zcn X' = zcn X ∧ zln X' = zln X ∧ zrv X' = zrv X ∧ ∀ q, q ≠ zp 192 i → q ≠ zp 1032 j → ziv X' q = ziv X q
theorem NMf.rf {i j : Nat} : NMf X X i j := ⟨rfl, rfl, rfl, fun _ _ _ => rfl⟩
theorem NMf.trans {X2 : ZG} {i j : Nat} (h : NMf X X' i j) (h2 : NMf X' X2 i j) : NMf X X2 i j := ⟨h2.1.trans h.1, h2.2.1.trans h.2.1, h2.2.2.1.trans h.2.2.1, fun q a b => (h2.2.2.2 q a b).trans (h.2.2.2 q a b)⟩
theorem c_append {i j : Nat} {L : List Int32} (h : NMw X i j L) (hL : L.length ≤ 1000) (x : Int32) : zMet E l mX5_append 0 0 [.ref (zp 192 i), .int x] X (zVx (fun X' => NMw X' i j (L ++ [x]) ∧ NMf X X' i j)) := by
  obtain ⟨h1, h2, h3, h4, h5, h6⟩ := h
  have hne : zp 192 i ≠ zp 1032 j := zp_ne (by omega) (by omega) (by omega)
  refine z_meth (by decide) (Nat.le_of_ble_eq_true rfl) (by simp [Value.category]) (wpt_X5_append_0 ?_); unfold wp_X5_append_0
  rw [h5, h2, h4, n_nn (by omega), n_p1]
  refine ⟨h1, fun c => ⟨h1, h1, fun G1 e1 => ⟨rfl, ⟨by rw [e1]; exact h1, by rw [e1]; exact h2, by rw [e1]; exact h3, by rw [e1]; exact h4, ?_, fun k hk => ?_⟩, by rw [e1]; exact ⟨rfl, rfl, rfl, fun q a b => by funext k; rw [iv_n a]⟩⟩⟩, fun c => ⟨h1, h1, h3, n_in ?_ (by omega), fun G2 e2 => ?_⟩⟩
  · rw [e1, iv_s, llenI]
  · rw [show (24 : Int32) = Int32.ofNat 24 from rfl, n_le (by omega) (by omega)] at c
    rw [e1, iv_n (Ne.symm hne), h6 k hk, llenI, if_pos (by omega), if_pos (by omega), latI_app, if_pos (by omega)]
  · rw [show (24 : Int32) = Int32.ofNat 24 from rfl, n_le (by omega) (by omega)] at c
    omega
  · rw [show (24 : Int32) = Int32.ofNat 24 from rfl, n_le (by omega) (by omega)] at c
    have v2 : ziv G2 (zp 192 i) 1 = Int32.ofNat L.length := by rw [e2, iv_n hne]; exact h5
    rw [v2, n_p1]
    refine ⟨by rw [e2]; exact h1, by rw [e2]; exact h1, fun G3 e3 => ⟨rfl, ⟨by rw [e3, e2]; exact h1, by rw [e3, e2]; exact h2, by rw [e3, e2]; exact h3, by rw [e3, e2]; exact h4, ?_, fun k hk => ?_⟩, by rw [e3, e2]; exact ⟨rfl, rfl, rfl, fun q a b => by funext k; rw [iv_n a, iv_n b]⟩⟩⟩
    · rw [e3, iv_s, llenI]
    · rw [e3, iv_n (Ne.symm hne), e2, ziv_si, llenI, latI_app]
      by_cases e : k = L.length
      · rw [if_pos ⟨rfl, e⟩, if_pos (by omega), if_neg (by omega), e, Nat.sub_self, latI_c0]
      · rw [if_neg (fun z => e z.2), h6 k hk]
        by_cases c2 : k < L.length
        · rw [if_pos c2, if_pos (by omega), if_pos c2]
        · rw [if_neg c2, if_neg (by omega)]
theorem PWm.nm {i j : Nat} (h : PWm K X) (hf : NMf X X' i j) (hK : zfr CT K X') : PWm K X' := by
  obtain ⟨⟨a1, a2, a3⟩, b1, b2, b3, -, d⟩ := h
  obtain ⟨f1, f2, f3, f4⟩ := hf
  refine ⟨⟨⟨by unfold zal; rw [f1]; exact a1.1, a1.2⟩, by rw [f2]; exact a2, fun k hk => ?_⟩, ⟨by unfold zal; rw [f1]; exact b1.1, b1.2⟩, by rw [f2]; exact b2, fun k hk => ?_, hK, d⟩
  · rw [f4 _ (zp_ne (by omega) (by omega) (by omega)) (zp_ne (by omega) (by omega) (by omega))]; exact a3 k hk
  · rw [f4 _ (zp_ne (by omega) (by omega) (by omega)) (zp_ne (by omega) (by omega) (by omega))]; exact b3 k hk
theorem NMf.fr {i j : Nat} (hf : NMf X X' i j) : zfr [192, 1032] X X' := by
  obtain ⟨f1, f2, f3, f4⟩ := hf
  refine ⟨fun t => by rw [f1]; exact Nat.le_refl _, fun t _ => by rw [f1], fun q hq => ⟨by rw [f2], f4 q (fun e => hq ?_) (fun e => hq ?_), by rw [f3]⟩⟩
  · rw [e, zp_mod (by omega)]; simp
  · rw [e, zp_mod (by omega)]; simp
theorem zstr_fr {T : List Nat} {n : Nat} (h : zstr X n) (hf : zfr T X X') (hn : n < 32) (hT : 3840 + n ∉ T) : zstr X' n := by
  obtain ⟨a, b, c⟩ := h
  exact ⟨hf.al a, by rw [hf.ln (by omega) hT]; exact b, fun j hj => by rw [hf.iv (by omega) hT]; exact c j hj⟩
theorem PWm.str (h : PWm K X) {n : Nat} (hn : n < 32) : zstr X n := by
  obtain ⟨-, -, -, -, c, d⟩ := h
  refine zstr_fr (d n hn) c hn ?_
  have : ∀ n, n < 32 → 3840 + n ∉ CT := by decide
  exact this n hn
theorem zl7 : zstl 7 = 21 := by decide +kernel
theorem zl8 : zstl 8 = 21 := by decide +kernel
theorem zp_str {a b : Nat} (h : zp 1000 a = zp 1000 b) : a = b := (zp_inj (by omega) (by omega) h).2
theorem c_write (hW : PWm K X) {i j : Nat} {L : List Int32} (h : NMw X i j L) (hL : L.length ≤ 900) (x : Int32) : zMet E l mX5_write 6 0 [.ref (zp 192 i), .int x] X (zVx (fun X' => NMw X' i j (L ++ wrt x) ∧ NMf X X' i j)) := by
  have hle := (mkf_le (c := x) (m := 21) (i := 0)).2
  generalize hQ : (zVx (fun X' => NMw X' i j (L ++ wrt x) ∧ NMf X X' i j)) = Q
  have e61 : mkn x = 21 → ∀ k, zW E l mX5_write 6 0 X Q k 61 [some (.ref (zp 192 i)), some (.int x), none] [] X := by
    intro hm k
    have fin : ∀ y, wrt x = [y] → xcV E l mX5_append 6 [.ref (zp 192 i), .int y] X k (fun X G9 => Q (.inr X) G9) (fun G4 k5 => Q (.inl none) G4) := fun y hy => cVx (c_append h (by omega) y) (by decide) (Nat.zero_le _) (fun G4 h4 => by
      rw [← hQ, hy]; exact ⟨rfl, h4⟩)
    have ew : wrt x = if x = 32 ∨ x = 45 then [60] else if x < 97 then [x] else [(x - 97) + 65] := by unfold wrt; rw [if_neg (by omega)]
    refine wpt_X5_write_61 ?_; unfold wp_X5_write_61
    refine cI (c_isGapC x) (by decide) ⟨fun c => ⟨fun c2 => ⟨h.1, fin _ ?_⟩, fun c2 => ⟨h.1, fin _ ?_⟩⟩, fun c => ⟨h.1, fin _ ?_⟩⟩
    · rw [ew, if_neg (show ¬ (x = 32 ∨ x = 45) from zb_0.mp c), if_pos c2]
    · rw [ew, if_neg (show ¬ (x = 32 ∨ x = 45) from zb_0.mp c), if_neg c2]
    · rw [ew, if_pos (show x = 32 ∨ x = 45 from Classical.byContradiction fun z => c (zbz z))]
  refine z_meth (by decide) (Nat.le_of_ble_eq_true rfl) (by simp [Value.category]) (wpt_X5_write_0 ?_); unfold wp_X5_write_0
  refine cI (c_marked hW x) (by decide) ⟨fun c => e61 ?_ _, fun c => ?_⟩
  · refine Classical.byContradiction fun z => ?_
    rw [if_neg z] at c
    exact n_neg (by unfold mkn; omega) c
  · have hm : mkn x ≠ 21 := fun z => c (by rw [if_pos z]; decide)
    rw [if_neg hm]
    have hm2 : mkn x < 21 := by unfold mkn at *; omega
    have ew : wrt x = if zstc 8 (mkn x) = 32 then [zstc 7 (mkn x)] else [zstc 7 (mkn x), zstc 8 (mkn x)] := by unfold wrt; rw [if_pos hm2]
    rw [n_nn (by omega)]
    refine ⟨7, by decide, rfl, hW.str (by decide), by decide, ie (by rw [zl7, n_le (by omega) (by omega)]; omega) ⟨8, by decide, rfl, hW.str (by decide), by decide, ie (by rw [zl8, n_le (by omega) (by omega)]; omega) ⟨7, by decide, rfl, hW.str (by decide), by decide, by rw [zl7]; exact n_in hm2 (by omega), h.1, cVx (c_append h (by omega) _) (by decide) (Nat.zero_le _) (fun G7 h7 => ?_)⟩⟩⟩
    have s8 : zstr G7 8 := zstr_fr (hW.str (by decide)) h7.2.fr (by decide) (by decide)
    refine ⟨8, by decide, rfl, s8, by decide, by rw [zl8]; exact n_in hm2 (by omega), fun c2 => ?_, fun c2 => ⟨8, by decide, rfl, s8, by decide, by rw [zl8]; exact n_in hm2 (by omega), h7.1.1, cVx (c_append h7.1 (by rw [llenI]; omega) _) (by decide) (Nat.zero_le _) (fun G11 h11 => ?_)⟩⟩
    · rw [← hQ, ew, if_pos c2]; exact ⟨rfl, h7⟩
    · rw [← hQ, ew, if_neg c2]
      refine ⟨rfl, ?_, h7.2.trans h11.2⟩
      have := h11.1
      rw [List.append_assoc] at this
      exact this
theorem ztrn_len {v : Nat → Int32} : ∀ {i : Nat}, (ztrn v i).length ≤ 2 * i
  | 0 => Nat.le_refl _
  | i + 1 => by
    unfold ztrn
    rw [List.length_append]
    have := ztrn_len (v := v) (i := i)
    have := sgn_len (v i)
    omega
theorem nmE_ok {v : Nat → Int32} : ∀ {m i : Nat}, nmE v m i = none → ∀ j, i ≤ j → j < i + m → ¬ nbad v j
  | 0, i, _, j, h1, h2 => by omega
  | m + 1, i, h, j, h1, h2 => by
    by_cases hb : nbad v i
    · rw [nmE_t hb] at h; cases h
    · rw [nmE_f hb] at h
      by_cases e : j = i
      · rw [e]; exact hb
      · exact nmE_ok h j (by omega) (by omega)
theorem c_initN (hW : PWm K X) {q n i j : Nat} {v : Nat → Int32} (hX : TXc X q n v) (hq : q % 4096 ≠ 192 ∧ q % 4096 ≠ 1032) (hn : nmE v n 0 = none) (ho : zob X (zp 192 i) 6) (hj : zcn X 1032 = j) : zMet E l mX5_init 7 25 [.ref (zp 192 i), .ref q] X (zVx (fun X' => NMw X' i j (ztrn v n) ∧ zcn X' 1032 = j + 1 ∧ zcn X' 192 = zcn X 192 ∧ zfr [192, 1032] X X' ∧ (∀ i', i' ≠ i → ziv X' (zp 192 i') = ziv X (zp 192 i') ∧ zrv X' (zp 192 i') = zrv X (zp 192 i') ∧ zln X' (zp 192 i') = zln X (zp 192 i')) ∧ ∀ j', j' < j → ziv X' (zp 1032 j') = ziv X (zp 1032 j') ∧ zln X' (zp 1032 j') = zln X (zp 1032 j') ∧ zrv X' (zp 1032 j') = zrv X (zp 1032 j'))) := by
  have v24 : (24 : Int32).toNatClampNeg = 24 := rfl
  generalize hQ : (zVx (fun X' => NMw X' i j (ztrn v n) ∧ zcn X' 1032 = j + 1 ∧ zcn X' 192 = zcn X 192 ∧ zfr [192, 1032] X X' ∧ (∀ i', i' ≠ i → ziv X' (zp 192 i') = ziv X (zp 192 i') ∧ zrv X' (zp 192 i') = zrv X (zp 192 i') ∧ zln X' (zp 192 i') = zln X (zp 192 i')) ∧ ∀ j', j' < j → ziv X' (zp 1032 j') = ziv X (zp 1032 j') ∧ zln X' (zp 1032 j') = zln X (zp 1032 j') ∧ zrv X' (zp 1032 j') = zrv X (zp 1032 j'))) = Q
  have nt : ∀ t, t ≠ 192 → t ≠ 1032 → t ∉ [192, 1032] := fun t h1 h2 => by simp [h1, h2]
  refine z_meth (by decide) (Nat.le_of_ble_eq_true rfl) (by simp [Value.category]) (wpt_X5_init_0 ?_); unfold wp_X5_init_0
  rw [v24]
  refine ⟨ho.1, by decide, by decide, by decide, by decide, 1032, by decide, by decide, by decide, fun q2 e2 G3 e3 k4 e4 => ?_⟩
  rw [hj] at e2
  have f3 : zfr [1032] X G3 := by rw [e3]; exact zfr.nw (by omega) (by simp)
  have n3 : zcn G3 1032 = j + 1 := by rw [e3, zcn_nw, if_pos rfl, hj]
  have ar : ∀ {G}, zcn G 1032 = j + 1 → zar G (zp 1032 j) 0 := fun h => zar_zp (by omega) (by omega) (by omega) (by omega)
  refine ⟨f3.ob ho, fun G5 e5 => ⟨by rw [e5]; exact f3.ob ho, fun G6 e6 => ⟨by rw [e6, e5]; exact f3.ob ho, ?_⟩⟩⟩
  have n6 : zcn G6 = zcn G3 := by rw [e6, e5]; rfl
  have l6 : zln G6 = zln G3 := by rw [e6, e5]; rfl
  have r6 : zrv G6 (zp 192 i) 0 = zp 1032 j := by rw [e6, zrv_si, e5, zrv_sr, if_pos ⟨rfl, rfl⟩, e2]
  have a6 : zar G6 (zp 1032 j) 0 := ar (by rw [n6, n3])
  have l6j : zln G6 (zp 1032 j) = 24 := by rw [l6, e3, zln_nw, if_pos (by rw [hj])]
  have f6 : zfr [192, 1032] X G6 := (f3.mono (by simp)).trans (by rw [e6, e5]; exact (zfr.sr (by rw [zp_mod (by omega)]; simp)).trans (zfr.si (by rw [zp_mod (by omega)]; simp)))
  rw [r6]
  refine cV (c_fill (d := 0) (b := 0) a6 (by rw [l6j]; omega)) (by decide) ?_
  rw [l6j]
  -- the row filled
  generalize hG : zfl G6 (zp 1032 j) 24 60 = G7
  have n7 : zcn G7 = zcn G6 := by rw [← hG]; rfl
  have l7 : zln G7 = zln G6 := by rw [← hG]; rfl
  have r7 : zrv G7 = zrv G6 := by rw [← hG]; rfl
  have i7 : ∀ a k, ziv G7 a k = if a = zp 1032 j ∧ k < 24 then 60 else ziv G6 a k := fun a k => by rw [← hG]; rfl
  have hne : zp 192 i ≠ zp 1032 j := zp_ne (by omega) (by omega) (by omega)
  have f67 : zfr [192, 1032] G6 G7 := ⟨fun t => by rw [n7]; exact Nat.le_refl _, fun t _ => by rw [n7], fun a ha => ⟨by rw [l7], by
    funext k
    rw [i7, if_neg (fun z => ha (by rw [z.1, zp_mod (by omega)]; simp))], by rw [r7]⟩⟩
  have f7 : zfr [192, 1032] X G7 := f6.trans f67
  have w7 : NMw G7 i j (ztrn v 0) := by
    refine ⟨f7.ob ho, by rw [r7]; exact r6, ar (by rw [n7, n6, n3]), by rw [l7]; exact l6j, ?_, fun k hk => ?_⟩
    · rw [i7, if_neg (fun z => hne z.1), e6, iv_s]; rfl
    · rw [i7, if_pos ⟨rfl, hk⟩]; rfl
  have hW7 : PWm K G7 := hW.fr f7 (nt _ (by omega) (by omega)) (nt _ (by omega) (by omega)) (by decide)
  obtain ⟨x1, x2, x3, x4, x5⟩ := hX
  have qne : ∀ t a, t < 4096 → t = 192 ∨ t = 1032 → q ≠ zp t a := fun t a h1 h2 e => by
    rw [e, zp_mod h1] at hq; omega
  have key : ∀ p, p ≤ n → ∀ X1 k, NMw X1 i j (ztrn v p) → NMf G7 X1 i j → zW E l mX5_init 7 25 X Q k 28 [some (.ref (zp 192 i)), some (.ref q), some (.int (Int32.ofNat p))] [] X1 := by
    have qa : ∀ {X1}, NMf G7 X1 i j → zar X1 q 0 ∧ zln X1 q = n ∧ ∀ a, a < n → ziv X1 q a = v a := fun {X1} hf => by
      have g : zfr [192, 1032] X X1 := f7.trans hf.fr
      have hq9 : q % 4096 ∉ [192, 1032] := nt _ hq.1 hq.2
      refine ⟨g.ar x1, by rw [(g.2.2 q hq9).1]; exact x2, fun a ha => ?_⟩
      rw [(g.2.2 q hq9).2.1]; exact x4 a ha
    refine zdown (fun X1 k h1 hf => ?_) (fun p hp ih X1 k h1 hf => ?_)
    · obtain ⟨y1, y2, y3⟩ := qa hf
      have g : zfr [192, 1032] X X1 := f7.trans hf.fr
      refine wpt_X5_init_28 ?_; unfold wp_X5_init_28
      rw [y2]
      refine ⟨Or.inl y1, it (by rw [n_le (by omega) (by omega)]; omega) ?_⟩
      rw [← hQ]
      obtain ⟨z1, z2, z3, z4⟩ := hf
      refine ⟨rfl, h1, by rw [z1, n7, n6, n3], ?_, g, fun i' hi => ⟨?_, ?_, ?_⟩, fun j' hj' => ⟨?_, ?_, ?_⟩⟩
      · rw [z1, n7, n6, e3, zcn_nw, if_neg (by decide)]
      · rw [z4 _ (zp_ni (by omega) hi) (zp_ne (by omega) (by omega) (by omega))]
        funext k
        rw [i7, if_neg (fun z => zp_ne (by omega) (by omega) (by omega) z.1), e6, iv_n (zp_ni (by omega) hi), e5, ziv_sr, f3.iv (by omega) (by simp)]
      · rw [z3, r7]
        funext k
        rw [e6, zrv_si, e5, zrv_sr, if_neg (fun z => zp_ni (by omega) hi z.1), f3.rv (by omega) (by simp)]
      · rw [z2, l7, l6, f3.ln (by omega) (by simp)]
      · rw [z4 _ (zp_ne (by omega) (by omega) (by omega)) (zp_ni (by omega) (by omega))]
        funext k
        rw [i7, if_neg (fun z => zp_ni (by omega) (by omega) z.1), e6, iv_n (zp_ne (by omega) (by omega) (by omega)), e5, ziv_sr, e3, ziv_nw, hj, if_neg (zp_ni (by omega) (by omega))]
      · rw [z2, l7, l6, e3, zln_nw, hj, if_neg (zp_ni (by omega) (by omega))]
      · rw [z3, r7]
        funext k
        rw [e6, zrv_si, e5, zrv_sr, if_neg (fun z => zp_ne (by omega) (by omega) (by omega) z.1), e3, zrv_nw, hj, if_neg (zp_ni (by omega) (by omega))]
    · obtain ⟨y1, y2, y3⟩ := qa hf
      have hlen := ztrn_len (v := v) (i := p)
      have hok := nmE_ok hn p (by omega) (by omega)
      obtain ⟨m, hm, em⟩ := x5 p hp
      have hw1 : wrt (v p) = sgn (v p) := by
        rw [em]; exact wrt_sgn m hm (by rw [← em]; exact fun z => hok (Or.inr (Or.inl z)))
      have g : zfr [192, 1032] X X1 := f7.trans hf.fr
      have cw := c_write (E := E) (l := l) (hW.fr g (nt _ (by omega) (by omega)) (nt _ (by omega) (by omega)) (by decide)) h1 (by omega) (v p)
      refine wpt_X5_init_28 ?_; unfold wp_X5_init_28
      rw [y2, n_nn (by omega), y3 p hp, n_p1]
      refine ⟨Or.inl y1, ie (by rw [n_le (by omega) (by omega)]; omega) ⟨Or.inl y1, n_in hp (by omega), h1.1, cVx cw (by decide) (Nat.zero_le _) (fun G2 h2 => ih G2 _ ?_ (hf.trans h2.2))⟩⟩
      have := h2.1
      rw [hw1] at this
      exact this
  exact key 0 (by omega) G7 _ w7 NMf.rf
end ZDc
