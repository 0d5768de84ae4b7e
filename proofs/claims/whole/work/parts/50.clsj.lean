/-! the office that tries is made like the true one -/
section ZCj
variable {w m : Nat} {S : ZS9} {r : Int32} {X : ZG} {E : ZE} {l : Launch}
theorem TF.st {X' : ZG} {a : Nat} (h : TF S X a) (hc : zcn X 352 ≤ zcn X' 352) (h1 : zrv X' (zp 33 a) = zrv X (zp 33 a)) (h2 : ∀ k, k < 6 → ziv X' (zp 33 a) k = ziv X (zp 33 a) k) (hv : ∀ v, v < zcn X 352 → ziv X' (zp 352 v) = ziv X (zp 352 v)) : TF S X' a := by
  obtain ⟨a1, ⟨v, v1, v2, v3⟩, a3⟩ := h
  refine ⟨by rw [h1]; exact a1, ⟨v, by omega, by rw [h1]; exact v2, ?_⟩, fun k k1 k2 => by rw [h2 k k1]; exact a3 k k1 k2⟩
  unfold VD at *
  rw [hv v v1]; exact v3
theorem aFld_i {a k : Nat} (h : k < 15 ∧ k ≠ 1 ∧ k ≠ 6) (hO : OF 0 S r m X) (ha : a < nA S) : ziv X (zp 32 a) k = aFld S a k := hO.so.fa ha h
theorem c_copyAskings (h : OF 0 S r m X) (hb : ∀ a, S 1165 (7 * a + 6) = 0 ∨ S 1165 (7 * a + 6) = 1) (ht : TRo X) {n1 : Nat} (hT : TRa S n1 X) : zMet E l mX6_copyAskings 8 (300 * (nA S - n1)) [.ref (zp 225 0), .ref (zp 224 0)] X (zVx (fun X' => TRa S (nA S) X' ∧ (∀ a, a < nA S → ∀ k, 7 ≤ k → k < 15 → ziv X' (zp 33 a) k = aFld S a k) ∧ zfr [33, 6, 3078] X X')) := by
  have hA := h.nA2
  have hn1 := hT.2.2.1
  generalize hQ : zVx (fun X' => TRa S (nA S) X' ∧ (∀ a, a < nA S → ∀ k, 7 ≤ k → k < 15 → ziv X' (zp 33 a) k = aFld S a k) ∧ zfr [33, 6, 3078] X X') = Q
  generalize hB : 300 * (nA S - n1) = B
  have ni : ∀ t, t ≠ 33 → t ≠ 6 → t ≠ 3078 → t ∉ [33, 6, 3078] := fun t h1 h2 h3 => by simp [h1, h2, h3]
  have oX : ∀ {X1}, zfr [33, 6, 3078] X X1 → OF 0 S r m X1 := fun hf => h.fr hf (fun t ht => by unfold OT at ht; simp at ht; exact ni t (by omega) (by omega) (by omega))
  have tX : ∀ {X1}, zfr [33, 6, 3078] X X1 → zob X1 (zp 225 0) 7 ∧ zrv X1 (zp 225 0) 3 = zp 6 0 := fun hf => ⟨hf.ob ht.1, by rw [hf.rv (by omega) (ni _ (by omega) (by omega) (by omega))]; exact ht.2.2.2.2.1⟩
  have key : ∀ i, i ≤ nA S → ∀ X1 n k, TRa S n X1 → n = max n1 i → (∀ a, a < i → ∀ k, 7 ≤ k → k < 15 → ziv X1 (zp 33 a) k = aFld S a k) → zfr [33, 6, 3078] X X1 → 300 * (nA S - n) ≤ k → zW E l mX6_copyAskings 8 B X Q k 2 [some (.ref (zp 225 0)), some (.ref (zp 224 0)), some (.int (Int32.ofNat i)), none] [] X1 := by
    refine zdown (fun X1 n k hT1 hn hv f1 hk => ?_) (fun i hi ih X1 n k hT1 hn hv f1 hk => ?_)
    · have h1 := oX f1
      have hl := h1.aL
      refine wpt_X6_copyAskings_2 ?_; unfold wp_X6_copyAskings_2
      rw [show zrv X1 (zp 224 0) 3 = zp 4 0 from h1.r3]
      refine ⟨h1.oo, zobL hl (by omega), csize hl (by omega) (by decide) (it (by rw [n_le (by omega) (by omega)]; omega) ?_)⟩
      rw [← hQ]
      have : n = nA S := by omega
      rw [this] at hT1
      exact ⟨rfl, hT1, hv, f1⟩
    · have e48 : ∀ X1 n k, TRa S n X1 → n = max n1 (i + 1) → (∀ a, a < i → ∀ k, 7 ≤ k → k < 15 → ziv X1 (zp 33 a) k = aFld S a k) → zfr [33, 6, 3078] X X1 → 300 * (nA S - n) ≤ k → zW E l mX6_copyAskings 8 B X Q k 48 [some (.ref (zp 225 0)), some (.ref (zp 224 0)), some (.int (Int32.ofNat i)), some (.ref (zp 32 i))] [] X1 := by
        intro X1 n k hT1 hn hv f1 hk
        have h1 := oX f1
        obtain ⟨t1, t2⟩ := tX f1
        have hl := hT1.1
        have oi : zob X1 (zp 33 i) 1 := zob_zp (by omega) (by omega) (by rw [hT1.2.1]; omega)
        have hb9 : zok .boolean (ziv X1 (zp 32 i) 9) := by rw [show ziv X1 (zp 32 i) 9 = S 1165 (7 * i + 6) from h1.a9 hi]; exact zok_b (hb i)
        refine wpt_X6_copyAskings_48 ?_; unfold wp_X6_copyAskings_48
        rw [t2, n_p1]
        refine ⟨t1, zobL hl (by omega), csize hl (by omega) (by decide) (ie (by rw [n_le (by omega) (by omega)]; omega) ⟨t1, by rw [t2]; exact zobL hl (by omega), ?_⟩)⟩
        rw [t2]
        refine cget hl (by omega) (by omega) (by omega) (by decide) ⟨oi, oi, cVx (c_copyA oi (h1.ob hi) hb9 (zp_ne (by omega) (by omega) (by omega))) (by decide) (Nat.zero_le _) (fun G2 h2 => ?_)⟩
        obtain ⟨i2, r2, lo2, hi2⟩ := h2
        have f2 : zfr [33] X1 G2 := zfr_of (t := 33) (i := i) (by omega) (by simp) i2.1 i2.2.1 i2.2.2
        have f22 : zfr [33, 6, 3078] X1 G2 := f2.mono (by simp)
        have n1f : ∀ t, t ≠ 33 → t ∉ [33] := fun t h => by simp [h]
        refine ih G2 n _ ⟨hl.fr f2 (by omega) (n1f _ (by omega)) (n1f _ (by omega)) (n1f _ (by omega)), by rw [i2.1]; exact hT1.2.1, hT1.2.2.1, fun a ha => ?_⟩ hn (fun a ha k k1 k2 => ?_) (f1.trans f22) (by omega)
        · refine (hT1.2.2.2 a ha).st (by rw [i2.1]; exact Nat.le_refl _) (by rw [r2]) (fun k hk => ?_) (fun v hv => f2.iv (by omega) (n1f _ (by omega)))
          by_cases e : a = i
          · rw [e]; exact lo2 k (by omega)
          · rw [(i2.2.2 _ (zp_ni (by omega) e)).1]
        · by_cases e : a = i
          · rw [e, hi2 k k1 k2]; exact aFld_i (by omega) h1 hi
          · rw [(i2.2.2 _ (zp_ni (by omega) e)).1]; exact hv a (by omega) k k1 k2
      have h1 := oX f1
      obtain ⟨t1, t2⟩ := tX f1
      have hl0 := h1.aL
      have hl := hT1.1
      refine wpt_X6_copyAskings_2 ?_; unfold wp_X6_copyAskings_2
      rw [show zrv X1 (zp 224 0) 3 = zp 4 0 from h1.r3]
      refine ⟨h1.oo, zobL hl0 (by omega), csize hl0 (by omega) (by decide) (ie (by rw [n_le (by omega) (by omega)]; omega) ⟨h1.oo, by rw [show zrv X1 (zp 224 0) 3 = zp 4 0 from h1.r3]; exact zobL hl0 (by omega), ?_⟩)⟩
      rw [show zrv X1 (zp 224 0) 3 = zp 4 0 from h1.r3]
      refine cget hl0 (by omega) (by omega) hi (by decide) ⟨h1.ob hi, t1, ?_⟩
      rw [t2]
      refine ⟨zobL hl (by omega), csize hl (by omega) (by decide) ⟨fun c => ?_, fun c => ⟨t1, h1.ob hi, ?_⟩⟩⟩
      · rw [n_lt (by omega) (by omega)] at c
        exact e48 X1 n _ hT1 (by omega) hv f1 hk
      · rw [n_lt (by omega) (by omega)] at c
        have en : n = i := by omega
        refine cRx (c_twin h1 hi) (by decide) (by omega) (fun q G3 h3 => ?_)
        obtain ⟨rfl, g1, g2, g3, g4, g5, g6⟩ := h3
        have n1f : ∀ t, t ≠ 33 → t ∉ [33] := fun t h => by simp [h]
        have l3 : zAL G3 6 n (zp 33) := hl.fr g2 (by omega) (n1f _ (by omega)) (n1f _ (by omega)) (n1f _ (by omega))
        have hz33 := hT1.2.1
        have hcs : Cond.castable (zC 1) "java/lang/Object" ∈ zcast := by decide +kernel
        have hel : ∀ j, j < n + 1 → zel G3 (zp 33 j) := fun j hj => zel_zp (c := 1) (by omega) (by omega) (by omega) (by decide) hcs
        rw [hz33] at g1 g3 g4 g5 g6 ⊢
        rw [t2]
        refine ⟨zobL l3 (by omega), cIx (c_add (b := 2 * n + 12) (d := 7) l3 (by omega) (by omega) (by omega) (hel n (by omega)) (fun j hj => hel j (by omega)) (Nat.le_refl _) (Nat.le_refl _)) (by decide) (by omega) (fun x G9 h9 => ?_)⟩
        obtain ⟨-, l9, f9⟩ := h9
        have n2f : ∀ t, t ≠ 6 → t ≠ 3078 → t ∉ [6, 3072 + 6] := fun t h1 h2 => by simp [h1, h2]
        have l9' : zAL G9 6 (n + 1) (zp 33) := by
          have : (fun j => if j = n then zp 33 n else zp 33 j) = zp 33 := by
            funext j
            split
            · next e => rw [e]
            · rfl
          rw [this] at l9
          exact l9
        have fr : zfr [33, 6, 3078] X1 G9 := (g2.mono (by simp)).trans (f9.mono (by intro t ht; simp at ht ⊢; omega))
        have iv9 : ∀ b, ziv G9 (zp 33 b) = ziv G3 (zp 33 b) := fun b => f9.iv (by omega) (n2f _ (by omega) (by omega))
        have rv9 : ∀ b, zrv G9 (zp 33 b) = zrv G3 (zp 33 b) := fun b => f9.rv (by omega) (n2f _ (by omega) (by omega))
        refine e48 G9 (n + 1) _ ⟨l9', by rw [f9.2.1 _ (n2f _ (by omega) (by omega)), g1], by omega, fun a ha => ?_⟩ (by omega) (fun a ha k k1 k2 => ?_) (f1.trans fr) (by omega)
        · by_cases e : a = n
          · subst e
            obtain ⟨p1, ⟨v, v1, v2, v3⟩, -⟩ := h1.so.2.1.2.2 i hi
            refine ⟨?_, ⟨v, Nat.lt_of_lt_of_le v1 (fr.1 _), ?_, ?_⟩, fun k k1 k2 => ?_⟩
            · rw [rv9, g4, en]; exact p1
            · rw [rv9, g5]; exact v2
            · unfold VD at *
              rw [fr.iv (t := 352) (by omega) (ni _ (by omega) (by omega) (by omega)), en]; exact v3
            · rw [iv9, g6 k k1 k2, en]; exact aFld_i (by omega) h1 hi
          · obtain ⟨y1, y2⟩ := g3 a (by omega)
            refine (hT1.2.2.2 a (by omega)).st (fr.1 _) (by rw [rv9, y2]) (fun k hk => by rw [iv9, y1]) (fun v hv => fr.iv (by omega) (ni _ (by omega) (by omega) (by omega)))
        · obtain ⟨y1, y2⟩ := g3 a (by omega)
          rw [iv9, y1]; exact hv a ha k k1 k2
  refine z_meth (by decide) (Nat.le_of_ble_eq_true rfl) (by simp [Value.category]) (wpt_X6_copyAskings_0 ?_); unfold wp_X6_copyAskings_0
  exact key 0 (by omega) X n1 _ hT (by omega) (fun a ha => absurd ha (by omega)) zfr.rf (by omega)
theorem c_newRow {n : Nat} (h : BO w n m X) (hw : w < 2) (hn : n < 150) : zMet E l mX6_newBooklet 8 (320 * (max m (n + 1) - m)) [.ref (zp (224 + w) 0)] X (zRx (fun q X' => q = zp (64 + w) n ∧ BO w (n + 1) (max m (n + 1)) X' ∧ zfr [224 + w, 64 + w, 5 + 2 * w, 3077 + 2 * w] X X' ∧ (∀ k, k ≠ 5 → ziv X' (zp (224 + w) 0) k = ziv X (zp (224 + w) 0) k) ∧ zrv X' (zp (224 + w) 0) = zrv X (zp (224 + w) 0) ∧ ∀ b, b < n → ziv X' (zp (64 + w) b) = ziv X (zp (64 + w) b))) := by
  generalize hQ : (zRx (fun q X' => q = zp (64 + w) n ∧ BO w (n + 1) (max m (n + 1)) X' ∧ zfr [224 + w, 64 + w, 5 + 2 * w, 3077 + 2 * w] X X' ∧ (∀ k, k ≠ 5 → ziv X' (zp (224 + w) 0) k = ziv X (zp (224 + w) 0) k) ∧ zrv X' (zp (224 + w) 0) = zrv X (zp (224 + w) 0) ∧ ∀ b, b < n → ziv X' (zp (64 + w) b) = ziv X (zp (64 + w) b))) = Q
  generalize hB : 320 * (max m (n + 1) - m) = B
  have e29 : ∀ m1 X1, m1 = max m (n + 1) → BO w n m1 X1 → zfr [64 + w, 5 + 2 * w, 3077 + 2 * w] X X1 → (∀ b, b < n → ziv X1 (zp (64 + w) b) = ziv X (zp (64 + w) b)) → ∀ k, zW E l mX6_newBooklet 8 B X Q k 29 [some (.ref (zp (224 + w) 0)), none] [] X1 := by
    rintro m1 X1 e1 ⟨h1, h2, h3, hl, h4, h5, h6⟩ f1 hv k
    have hf : zfr [224 + w] X1 (zsi X1 (zp (224 + w) 0) 5 (Int32.ofNat (n + 1))) := zfr.si (by rw [zp_mod (by omega)]; simp)
    have no : ∀ t, t ≠ 224 + w → t ∉ [224 + w] := fun t h => by simp [h]
    have n3 : ∀ t, t ≠ 64 + w → t ≠ 5 + 2 * w → t ≠ 3077 + 2 * w → t ∉ [64 + w, 5 + 2 * w, 3077 + 2 * w] := fun t h1 h2 h3 => by simp [h1, h2, h3]
    refine wpt_X6_newBooklet_29 ?_; unfold wp_X6_newBooklet_29
    rw [h2, h3]
    refine ⟨h1, h1, h1, zobL hl (by omega), csize hl (by omega) (by decide) (cmin (by decide) ⟨zobL hl (by omega), ?_⟩)⟩
    have em : (if Int32.ofNat m1 - 1 < Int32.ofNat n then Int32.ofNat m1 - 1 else Int32.ofNat n) = Int32.ofNat n := by
      obtain ⟨m2, rfl⟩ : ∃ m2, m1 = m2 + 1 := ⟨m1 - 1, by omega⟩
      rw [n_s1, if_neg (by rw [n_lt (by omega) (by omega)]; omega)]
    rw [em]
    refine cget hl (by omega) (by omega) (by omega) (by decide) ⟨zob_zp (by omega) (by omega) (by omega), h1, h1, fun G2 e2 => ?_⟩
    rw [h3, n_p1] at e2
    rw [← hQ]
    refine ⟨_, rfl, rfl, ?_, ?_, fun k hk => ?_, ?_, fun b hb => ?_⟩
    · rw [e2, ← e1]
      exact ⟨h1, h2, iv_s, hl.fr hf (by omega) (no _ (by omega)) (no _ (by omega)) (no _ (by omega)), h4, by omega, h6⟩
    · rw [e2]; exact (f1.mono (by intro t ht; simp at ht ⊢; omega)).trans (hf.mono (by intro t ht; simp at ht ⊢; omega))
    · rw [e2, iv_k hk, f1.iv (by omega) (n3 _ (by omega) (by omega) (by omega))]
    · rw [e2, zrv_si, f1.rv (by omega) (n3 _ (by omega) (by omega) (by omega))]
    · rw [← hv b hb, e2]; funext j; rw [iv_n (zp_ne (by omega) (by omega) (by omega))]
  have h0 := h
  obtain ⟨h1, h2, h3, hl, h4, h5, h6⟩ := h
  refine z_meth (by decide) (Nat.le_of_ble_eq_true rfl) (by simp [Value.category]) (wpt_X6_newBooklet_0 ?_); unfold wp_X6_newBooklet_0
  rw [h2, h3]
  refine ⟨h1, h1, zobL hl (by omega), csize hl (by omega) (by decide) ⟨fun c => ?_, fun c => ⟨h1, ?_⟩⟩⟩
  · rw [n_lt (by omega) (by omega)] at c
    exact e29 m X (by omega) h0 zfr.rf (fun _ _ => rfl) _
  · rw [n_lt (by omega) (by omega)] at c
    have em : m = n := by omega
    have emx : max m (n + 1) = m + 1 := by omega
    refine ⟨by omega, 64 + w, by omega, by omega, by omega, fun q5 e5 G6 e6 k7 e7 => ?_⟩
    rw [h4] at e5
    have f6 : zfr [64 + w] X G6 := by rw [e6]; exact zfr.nw (by omega) (by simp)
    have al6 : zal G6 q5 := by rw [e6, e5]; exact (zal_nw (by omega) _).mpr (Or.inr (by rw [h4]))
    have o6 : zob G6 q5 2 := ⟨al6, by rw [e5, zp_mod (by omega)]; omega, by rw [e5, zp_mod (by omega)]; omega⟩
    have ci : zMet E l mX1_init 7 0 [.ref q5] G6 (zVx (fun X' => zIn G6 X' q5)) := by
      refine z_meth (by decide) (Nat.le_of_ble_eq_true rfl) (by simp [Value.category]) (wpt_X1_init_0 ?_); unfold wp_X1_init_0
      refine ⟨al6, by decide, o6, fun G1 e1 => ?_⟩
      have i1 : zIn G6 G1 q5 := by rw [e1]; exact zIn.rf.si
      refine ⟨i1.ob o6, fun G2 e2 => ?_⟩
      have i2 : zIn G6 G2 q5 := by rw [e2]; exact i1.si
      refine ⟨i2.ob o6, fun G3 e3 => ?_⟩
      have i3 : zIn G6 G3 q5 := by rw [e3]; exact i2.si
      exact ⟨i3.ob o6, fun G4 e4 => ⟨rfl, by rw [e4]; exact i3.si⟩⟩
    refine ⟨al6, cVx ci (by decide) (Nat.zero_le _) (fun G8 h8 => ?_)⟩
    have g8 : zfr [64 + w] X G8 := f6.trans (zfr_of (t := 64 + w) (i := n) (by omega) (by simp) h8.1 h8.2.1 (by rw [← em, ← e5]; exact h8.2.2))
    have ni : ∀ t, t ≠ 64 + w → t ∉ [64 + w] := fun t h => by simp [h]
    have l8 : zAL G8 (5 + 2 * w) m (zp (64 + w)) := hl.fr g8 (by omega) (ni _ (by omega)) (ni _ (by omega)) (ni _ (by omega))
    have n64 : zcn G8 (64 + w) = m + 1 := by rw [h8.1, e6, zcn_nw, if_pos rfl, h4]
    have hcs : Cond.castable (zC 2) "java/lang/Object" ∈ zcast := by decide +kernel
    have hel : ∀ j, j < m + 1 → zel G8 (zp (64 + w) j) := fun j hj => zel_zp (c := 2) (by omega) (by omega) (by omega) (by decide) hcs
    rw [h2, e5]
    refine ⟨zobL l8 (by omega), ?_⟩
    refine cIx (c_add (b := 2 * m + 12) (d := 7) l8 (by omega) (by omega) (by omega) (hel m (by omega)) (fun j hj => hel j (by omega)) (Nat.le_refl _) (Nat.le_refl _)) (by decide) (by omega) (fun x G9 h9 => ?_)
    obtain ⟨-, l9, f9⟩ := h9
    have n9 : zcn G9 (64 + w) = m + 1 := by rw [f9.2.1 _ (by simp; omega), n64]
    have l9' : zAL G9 (5 + 2 * w) (m + 1) (zp (64 + w)) := by
      have : (fun j => if j = m then zp (64 + w) m else zp (64 + w) j) = zp (64 + w) := by
        funext j
        split
        · next e => rw [e]
        · rfl
      rw [this] at l9
      exact l9
    have fr : zfr [64 + w, 5 + 2 * w, 3077 + 2 * w] X G9 := (g8.mono (by simp)).trans (f9.mono (by intro t ht; simp at ht ⊢; omega))
    have no : ∀ t, t ≠ 64 + w → t ≠ 5 + 2 * w → t ≠ 3077 + 2 * w → t ∉ [64 + w, 5 + 2 * w, 3077 + 2 * w] := fun t h1 h2 h3 => by simp [h1, h2, h3]
    refine e29 (m + 1) G9 emx.symm ⟨fr.ob h1, ?_, ?_, l9', n9, by omega, by omega⟩ fr (fun b hb => ?_) _
    · rw [fr.rv (by omega) (no _ (by omega) (by omega) (by omega))]; exact h2
    · rw [fr.iv (by omega) (no _ (by omega) (by omega) (by omega))]; exact h3
    · have hne : zp (64 + w) b ≠ q5 := by rw [e5]; exact zp_ni (by omega) (by omega)
      rw [f9.iv (by omega) (by simp; omega), (h8.2.2 _ hne).1, e6]
      funext j
      rw [ziv_nw, if_neg]
      rw [h4]
      exact zp_ni (by omega) (by omega)
end ZCj
