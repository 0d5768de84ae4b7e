/-! an office: the post, the calls, a day; the held ones; those ahead -/
section ZCh
variable {w m : Nat} {S : ZS9} {r : Int32} {X : ZG} {E : ZE} {l : Launch}
theorem c_takePost (h : OF w S r m X) : zMet E l mX6_takePost 4 0 [.ref (zp (224 + w) 0)] X (zVx (fun X' => OF w (zpost S (nA S)) r m X' ∧ zfr (TW w) X X')) := by
  have hA := h.nA2
  have hw := h.w2
  refine z_meth (by decide) (Nat.le_of_ble_eq_true rfl) (by simp [Value.category]) (wpt_X6_takePost_0 ?_); unfold wp_X6_takePost_0
  have key : ∀ i, i ≤ nA S → ∀ X1 k, OF w (zpost S i) r m X1 → zfr (TW w) X X1 → zW E l mX6_takePost 4 0 X (zVx (fun X' => OF w (zpost S (nA S)) r m X' ∧ zfr (TW w) X X')) k 2 [some (.ref (zp (224 + w) 0)), some (.int (Int32.ofNat i)), none] [] X1 := by
    refine zdown (fun X1 k h1 f1 => ?_) (fun i hi ih X1 k h1 f1 => ?_)
    · have hl := h1.aL
      have hn : nA (zpost S (nA S)) = nA S := nA_dk zpost_dk
      refine wpt_X6_takePost_2 ?_; unfold wp_X6_takePost_2
      rw [h1.r3]
      exact ⟨h1.oo, zobL hl (by omega), csize hl (by omega) (by decide) (it (by rw [n_le (by omega) (by omega)]; omega) ⟨rfl, h1, f1⟩)⟩
    · have hl := h1.aL
      have hn : nA (zpost S i) = nA S := nA_dk zpost_dk
      have hi1 : i < nA (zpost S i) := by omega
      have e1 : zpost S (i + 1) = if zpost S i 1165 (7 * i + 0) = 6 ∧ ¬ zpost S i 416 1 < zpost S i 1165 (7 * i + 4) then zgets (zpost S i) i else zpost S i := rfl
      rw [e1] at ih
      refine wpt_X6_takePost_2 ?_; unfold wp_X6_takePost_2
      rw [h1.r3, n_p1]
      refine ⟨h1.oo, zobL hl (by omega), csize hl (by omega) (by decide) (ie (by rw [n_le (by omega) (by omega)]; omega) ⟨h1.oo, by rw [h1.r3]; exact zobL hl (by omega), ?_⟩)⟩
      rw [h1.r3]
      refine cget hl (by omega) (by omega) hi1 (by decide) ⟨h1.ob hi1, h1.ob hi1, ?_⟩
      rw [h1.a7 hi1, h1.a13 hi1, h1.f6]
      refine ⟨fun c => ?_, fun c => ⟨h1.ob hi1, h1.oo, fun c2 => ?_, fun c2 => ⟨h1.oo, cVx (c_arrive h1 hi1) (by decide) (Nat.zero_le _) (fun G2 h2 => ?_)⟩⟩⟩
      · rw [if_neg (fun z => c z.1)] at ih; exact ih X1 _ h1 f1
      · rw [if_neg (fun z => z.2 c2)] at ih; exact ih X1 _ h1 f1
      · rw [if_pos ⟨Classical.not_not.mp c, c2⟩] at ih; exact ih G2 _ h2.1 (f1.trans h2.2)
  exact key 0 (by omega) X _ h zfr.rf
def zcalls2 (S : ZS9) (c : Int32) : ZS9 := zup (zup S 416 74 c) 416 75 (S 416 75 + c)
theorem c_countCalls (h : OF w S r m X) : zMet E l mX6_countCalls 3 0 [.ref (zp (224 + w) 0)] X (zVx (fun X' => OF w (zcalls2 S (zcnt (zimp S) (nA S) / 3)) r m X' ∧ zfr (TW w) X X')) := by
  have hA := h.nA2
  have hw := h.w2
  have hl := h.aL
  obtain ⟨r0, r1, -⟩ := h.cr
  refine z_meth (by decide) (Nat.le_of_ble_eq_true rfl) (by simp [Value.category]) (wpt_X6_countCalls_0 ?_); unfold wp_X6_countCalls_0
  have key : ∀ i, i ≤ nA S → ∀ k, zW E l mX6_countCalls 3 0 X (zVx (fun X' => OF w (zcalls2 S (zcnt (zimp S) (nA S) / 3)) r m X' ∧ zfr (TW w) X X')) k 4 [some (.ref (zp (224 + w) 0)), some (.int (zcnt (zimp S) i)), some (.int (Int32.ofNat i)), none] [] X := by
    refine zdown (fun k => ?_) (fun i hi ih k => ?_)
    · refine wpt_X6_countCalls_4 ?_; unfold wp_X6_countCalls_4
      rw [h.r3]
      refine ⟨h.oo, zobL hl (by omega), csize hl (by omega) (by decide) (it (by rw [n_le (by omega) (by omega)]; omega) ⟨h.oo, fun G4 e4 => ?_⟩)⟩
      have h4 : OF w (zup S 416 74 (zcnt (zimp S) (nA S) / 3)) r m G4 := by rw [e4]; exact h.putO (by unfold ok9; omega) (by omega) (by omega)
      rw [h4.f12, h4.f11, zup_ne (by omega), zup_s]
      refine ⟨h4.oo, h4.oo, h4.oo, fun G5 e5 => ⟨rfl, ?_, ?_⟩⟩
      · rw [e5]; exact h4.putO (by unfold ok9; omega) (by omega) (by omega)
      · rw [e5, e4]; exact frO hw (frO hw zfr.rf)
    · have ih := ih k
      refine wpt_X6_countCalls_4 ?_; unfold wp_X6_countCalls_4
      rw [h.r3, n_p1]
      refine ⟨h.oo, zobL hl (by omega), csize hl (by omega) (by decide) (ie (by rw [n_le (by omega) (by omega)]; omega) ⟨h.oo, by rw [h.r3]; exact zobL hl (by omega), ?_⟩)⟩
      rw [h.r3]
      refine cget hl (by omega) (by omega) hi (by decide) ⟨h.ob hi, h.ob hi, cI (c_isOpen h.so hw hi) (by decide) ?_⟩
      rw [h.f6, h.a3 hi, h.r2, r1]
      refine ⟨fun c => ?_, fun c => ⟨h.oo, h.ob hi, h.oo, r0, fun c2 => ?_, fun c2 => ?_⟩⟩
      · have c := zb_0.mp c
        rw [zcnt_f (fun z => c z.1)] at ih; exact ih
      · rw [zcnt_f (fun z => z.2 c2)] at ih; exact ih
      · have c := Classical.not_not.mp (fun z => c (zbz z))
        rw [zcnt_t (show zimp S i from ⟨c, c2⟩)] at ih; exact ih
  exact key 0 (by omega) _
theorem nB_works {d : Nat} : nB (zworks S d r) = nB (zwork1 S d r).2 := by unfold zworks; rw [nB_up (by omega)]
theorem c_passDay (h : OF w S r m X) (hr : r = 0 ∨ r = 1 ∨ r = 2) (hj : ¬ S 416 1 + 1 < 0) : zMet E l mX6_passDay 12 (320 * (max m (nB (zday S r)) - m)) [.ref (zp (224 + w) 0)] X (zVx (fun X' => OF w (zday S r) r (max m (nB (zday S r))) X' ∧ zfr (TW w) X X')) := by
  have hw := h.w2
  have hm := h.mB
  generalize hB : 320 * (max m (nB (zday S r)) - m) = B
  generalize hQ : (zVx (fun X' => OF w (zday S r) r (max m (nB (zday S r))) X' ∧ zfr (TW w) X X')) = Q
  have step : ∀ d T m1 X1 k, d < 4 → OF w T r m1 X1 → zfr (TW w) X X1 → 320 * (max m1 (nB (zworks T d r)) - m1) ≤ k → (∀ X2, OF w (zworks T d r) r (max m1 (nB (zworks T d r))) X2 → zfr (TW w) X X2 → zW E l mX6_passDay 12 B X Q (k - 320 * (max m1 (nB (zworks T d r)) - m1)) 25 [some (.ref (zp (224 + w) 0)), some (.int (Int32.ofNat (d + 1)))] [] X2) →
      zW E l mX6_passDay 12 B X Q k 25 [some (.ref (zp (224 + w) 0)), some (.int (Int32.ofNat d))] [] X1 := by
    intro d T m1 X1 k hd h1 f1 hk go
    rw [nB_works] at hk go
    refine wpt_X6_passDay_25 ?_; unfold wp_X6_passDay_25
    rw [h1.f13, n_p1]
    refine ie (by rw [show (4 : Int32) = Int32.ofNat 4 from rfl, n_le (by omega) (by omega)]; omega) ⟨h1.oo, h1.oo, cIx (c_workAt h1 hr hd) (by decide) hk (fun x G2 h2 => ?_)⟩
    obtain ⟨rfl, h2, f2⟩ := h2
    refine ⟨h2.oo, fun G4 e4 => go G4 ?_ ?_⟩
    · have e76 : (zwork1 T d r).2 416 76 = T 416 76 := by unfold zwork1 zwork0; rw [zsrv_416 (by decide), zrw_st _ _ (by omega) (by omega)]
      unfold zworks
      rw [e4, e76]
      exact h2.putO (by unfold ok9; omega) (by omega) (by omega)
    · rw [e4]; exact frO hw (f1.trans f2)
  have n4 : nB (zday0 S) = nB S := by
    unfold zday0 zcalls nB
    rw [zup_ne (by omega), zup_ne (by omega), zup_ne (by omega), zpost_416 (by decide), zup_ne (by omega)]
  have desks : ∀ X1, OF w (zday0 S) r m X1 → zfr (TW w) X X1 → zW E l mX6_passDay 12 B X Q B 25 [some (.ref (zp (224 + w) 0)), some (.int 0)] [] X1 := by
    intro X1 h1 f1
    have g0 := zday0_RI h.ri
    have g1 := zworks_RI (d := 0) (r := r) (by decide) g0
    have g2 := zworks_RI (d := 1) (r := r) (by decide) g1
    have g3 := zworks_RI (d := 2) (r := r) (by decide) g2
    have m0 := (zworks_mn (d := 0) (r := r) (by decide) g0).2.2.1
    have m1 := (zworks_mn (d := 1) (r := r) (by decide) g1).2.2.1
    have m2 := (zworks_mn (d := 2) (r := r) (by decide) g2).2.2.1
    have m3 := (zworks_mn (d := 3) (r := r) (by decide) g3).2.2.1
    have ed : zday S r = zworks (zworks (zworks (zworks (zday0 S) 0 r) 1 r) 2 r) 3 r := rfl
    rw [ed] at hB hQ
    refine step 0 (zday0 S) m X1 B (by decide) h1 f1 (by omega) (fun X2 h2 f2 => ?_)
    refine step 1 _ _ X2 _ (by decide) h2 f2 (by omega) (fun X3 h3 f3 => ?_)
    refine step 2 _ _ X3 _ (by decide) h3 f3 (by omega) (fun X4 h4 f4 => ?_)
    refine step 3 _ _ X4 _ (by decide) h4 f4 (by omega) (fun X5 h5 f5 => ?_)
    refine wpt_X6_passDay_25 ?_; unfold wp_X6_passDay_25
    refine it (by decide) ?_
    rw [← hQ]
    refine ⟨rfl, ?_, f5⟩
    rw [show max m (nB (zworks (zworks (zworks (zworks (zday0 S) 0 r) 1 r) 2 r) 3 r)) = max (max (max (max m (nB (zworks (zday0 S) 0 r))) (nB (zworks (zworks (zday0 S) 0 r) 1 r))) (nB (zworks (zworks (zworks (zday0 S) 0 r) 1 r) 2 r))) (nB (zworks (zworks (zworks (zworks (zday0 S) 0 r) 1 r) 2 r) 3 r)) by omega]
    exact h5
  refine z_meth (by decide) (Nat.le_of_ble_eq_true rfl) (by simp [Value.category]) (wpt_X6_passDay_0 ?_); unfold wp_X6_passDay_0
  rw [h.f6]
  refine ⟨h.oo, h.oo, fun G1 e1 => ?_⟩
  have h1 : OF w (zup S 416 1 (S 416 1 + 1)) r m G1 := by rw [e1]; exact h.putO (by unfold ok9; omega) (by omega) (fun _ => hj)
  have f1 : zfr (TW w) X G1 := by rw [e1]; exact frO hw zfr.rf
  have hn : nA (zup S 416 1 (S 416 1 + 1)) = nA S := nA_up (by omega)
  have ct := c_takePost (E := E) (l := l) h1
  rw [hn] at ct
  refine ⟨h1.oo, cVx ct (by decide) (Nat.zero_le _) (fun G2 h2 => ?_)⟩
  have d0 : zday0 S = zup (zcalls2 (zpost (zup S 416 1 (S 416 1 + 1)) (nA S)) (zcnt (zimp (zpost (zup S 416 1 (S 416 1 + 1)) (nA S))) (nA (zpost (zup S 416 1 (S 416 1 + 1)) (nA S))) / 3)) 416 76 0 := rfl
  refine ⟨h2.1.oo, cVx (c_countCalls h2.1) (by decide) (Nat.zero_le _) (fun G4 h4 => ⟨h4.1.oo, fun G6 e6 => desks G6 ?_ ?_⟩)⟩
  · rw [d0, e6]; exact h4.1.putO (by unfold ok9; omega) (by omega) (by omega)
  · rw [e6]; exact frO hw ((f1.trans h2.2).trans h4.2)
theorem c_checkHeld (h : OF w S r m X) : zMet E l mX6_checkHeldAgain 6 0 [.ref (zp (224 + w) 0)] X (zIx (fun x X' => x = (zheld S (nA S)).1 ∧ OF w (zheld S (nA S)).2 r m X' ∧ zfr (TW w) X X')) := by
  have hA := h.nA2
  have hw := h.w2
  refine z_meth (by decide) (Nat.le_of_ble_eq_true rfl) (by simp [Value.category]) (wpt_X6_checkHeldAgain_0 ?_); unfold wp_X6_checkHeldAgain_0
  have key : ∀ i, i ≤ nA S → ∀ X1 k, OF w (zheld S i).2 r m X1 → zfr (TW w) X X1 → zW E l mX6_checkHeldAgain 6 0 X (zIx (fun x X' => x = (zheld S (nA S)).1 ∧ OF w (zheld S (nA S)).2 r m X' ∧ zfr (TW w) X X')) k 4 [some (.ref (zp (224 + w) 0)), some (.int (zheld S i).1), some (.int (Int32.ofNat i)), none] [] X1 := by
    refine zdown (fun X1 k h1 f1 => ?_) (fun i hi ih X1 k h1 f1 => ?_)
    · have hl := h1.aL
      have hn : nA (zheld S (nA S)).2 = nA S := nA_dk zheld_dk
      refine wpt_X6_checkHeldAgain_4 ?_; unfold wp_X6_checkHeldAgain_4
      rw [h1.r3]
      exact ⟨h1.oo, zobL hl (by omega), csize hl (by omega) (by decide) (it (by rw [n_le (by omega) (by omega)]; omega) ⟨_, rfl, rfl, h1, f1⟩)⟩
    · have hl := h1.aL
      have hn : nA (zheld S i).2 = nA S := nA_dk zheld_dk
      have hi1 : i < nA (zheld S i).2 := by omega
      have e1 : zheld S (i + 1) = if (zheld S i).2 1165 (7 * i + 0) = 3 then (if zst (zheld S i).2 i = 3 then (zheld S i).1 else (zheld S i).1 + 1, zchk (zheld S i).2 i) else zheld S i := rfl
      rw [e1] at ih
      refine wpt_X6_checkHeldAgain_4 ?_; unfold wp_X6_checkHeldAgain_4
      rw [h1.r3, n_p1]
      refine ⟨h1.oo, zobL hl (by omega), csize hl (by omega) (by decide) (ie (by rw [n_le (by omega) (by omega)]; omega) ⟨h1.oo, by rw [h1.r3]; exact zobL hl (by omega), ?_⟩)⟩
      rw [h1.r3]
      refine cget hl (by omega) (by omega) hi1 (by decide) ⟨h1.ob hi1, h1.ob hi1, ?_⟩
      rw [h1.a7 hi1]
      refine ⟨fun c => ?_, fun c => ⟨h1.oo, cVx (c_check h1 hi1) (by decide) (Nat.zero_le _) (fun G2 h2 => ?_)⟩⟩
      · rw [if_neg c] at ih; exact ih X1 _ h1 f1
      · have hi2 : i < nA (zchk (zheld S i).2 i) := by unfold zchk; rw [nA_up (by omega)]; exact hi1
        rw [if_pos (Classical.not_not.mp c)] at ih
        rw [h2.1.a7 hi2, show zchk (zheld S i).2 i 1165 (7 * i + 0) = zst (zheld S i).2 i from zup_s _ _ _ _]
        refine ⟨h2.1.ob hi2, fun c2 => ?_, fun c2 => ?_⟩
        · rw [if_pos c2] at ih; exact ih G2 _ h2.1 (f1.trans h2.2)
        · rw [if_neg c2] at ih; exact ih G2 _ h2.1 (f1.trans h2.2)
  exact key 0 (by omega) X _ h zfr.rf
theorem c_endBooklet (h : OF w S r m X) {b : Nat} (hb : b < nB S) : zMet E l mX6_endBooklet 4 0 [.ref (zp (224 + w) 0), .int (Int32.ofNat b)] X (zVx (fun X' => OF w (zup S 1169 b (if S 416 1 < S 1169 b then S 416 1 else S 1169 b)) r m X' ∧ zfr (TW w) X X')) := by
  have hw := h.w2
  refine z_meth (by decide) (Nat.le_of_ble_eq_true rfl) (by simp [Value.category]) (wpt_X6_endBooklet_0 ?_); unfold wp_X6_endBooklet_0
  refine ⟨h.oo, cR (c_bookletAt h.so hw h.ri hb) (by decide) (ie (zpn (by omega)) ?_)⟩
  rw [h.so.fb hb (k := 2) (by decide), h.f6]
  show zob X (zp (64 + w) b) 2 ∧ zob X (zp (224 + w) 0) 7 ∧ ((S 1169 b ≤ S 416 1 → _) ∧ (¬ S 1169 b ≤ S 416 1 → _))
  refine ⟨h.bo hb, h.oo, fun c => ⟨rfl, ?_, zfr.rf⟩, fun c => ⟨h.oo, h.bo hb, fun G4 e4 => ⟨rfl, ?_, ?_⟩⟩⟩
  · rw [if_neg (i_nlt.mpr c)]
    have : zup S 1169 b (S 1169 b) = S := by
      funext t k
      rw [zup_at]
      split
      · next hc => rw [hc.1, hc.2]
      · rfl
    rw [this]; exact h
  · rw [if_pos (i_nle.mp c), e4]; exact h.putB (k := 2) (by decide)
  · rw [e4]; exact frB hw zfr.rf
/-- whose state is at a desk: which -/
def zdesk (x : Int32) : Int32 := if x = 0 then 0 else if x = 2 then 1 else if x = 4 then 2 else if x = 5 then 3 else -1
theorem c_deskOf (h : OF w S r m X) {a : Nat} (ha : a < nA S) : zMet E l mX6_deskOf 0 0 [.ref (zp (32 + w) a)] X (zI (zdesk (S 1165 (7 * a + 0))) X) := by
  have cs := h.cs
  have hw := h.w2
  refine z_meth (by decide) (Nat.le_of_ble_eq_true rfl) (by simp [Value.category]) (wpt_X6_deskOf_0 ?_); unfold wp_X6_deskOf_0
  have key : ∀ i, i ≤ 4 → (∀ d, d < i → rSt d ≠ S 1165 (7 * a + 0)) → ∀ k, zW E l mX6_deskOf 0 0 X (zI (zdesk (S 1165 (7 * a + 0))) X) k 2 [some (.ref (zp (32 + w) a)), some (.int (Int32.ofNat i))] [] X := by
    refine zdown (fun hno k => ?_) (fun i hi ih hno k => ?_)
    · refine wpt_X6_deskOf_2 ?_; unfold wp_X6_deskOf_2
      refine it (by decide) ⟨?_, rfl⟩
      have n0 := hno 0 (by decide)
      have n1 := hno 1 (by decide)
      have n2 := hno 2 (by decide)
      have n3 := hno 3 (by decide)
      unfold zdesk
      rw [if_neg (fun z => n0 (by rw [z]; decide)), if_neg (fun z => n1 (by rw [z]; decide)), if_neg (fun z => n2 (by rw [z]; decide)), if_neg (fun z => n3 (by rw [z]; decide))]
    · refine wpt_X6_deskOf_2 ?_; unfold wp_X6_deskOf_2
      rw [cs.2.1, n_nn (by omega), n_p1, cs.2.2 i hi, h.a7 ha]
      refine ie (by rw [show (4 : Int32) = Int32.ofNat 4 from rfl, n_le (by omega) (by omega)]; omega) ⟨Or.inr cs.1, n_in hi (by omega), h.ob ha, fun c => ih (fun d hd => ?_) k, fun c => ⟨?_, rfl⟩⟩
      · by_cases e : d = i
        · rw [e]; exact c
        · exact hno d (by omega)
      · have c := Classical.not_not.mp c
        rw [← c]
        match i, hi with
        | 0, _ => rfl
        | 1, _ => rfl
        | 2, _ => rfl
        | 3, _ => rfl
  exact key 0 (by omega) (fun d hd => absurd hd (by omega)) _
theorem c_countAhead (h : OF w S r m X) (hr : r = 0 ∨ r = 1 ∨ r = 2) (hr2 : r = S 416 42) {a : Nat} (ha : a < nA S) : zMet E l mX6_countAhead 3 0 [.ref (zp (224 + w) 0), .ref (zp (32 + w) a)] X (zI (@ite _ (zatdesk (S 1165 (7 * a + 0))) (Classical.propDecidable _) (zahead S a (nA S)) (-1)) X) := by
  have hA := h.nA2
  have hw := h.w2
  have hl := h.aL
  refine z_meth (by decide) (Nat.le_of_ble_eq_true rfl) (by simp [Value.category]) (wpt_X6_countAhead_0 ?_); unfold wp_X6_countAhead_0
  have key : ∀ i, i ≤ nA S → ∀ k, zW E l mX6_countAhead 3 0 X (zI (zahead S a (nA S)) X) k 14 [some (.ref (zp (224 + w) 0)), some (.ref (zp (32 + w) a)), some (.int (zahead S a i)), some (.int (Int32.ofNat i)), none] [] X := by
    refine zdown (fun k => ?_) (fun i hi ih k => ?_)
    · refine wpt_X6_countAhead_14 ?_; unfold wp_X6_countAhead_14
      rw [h.r3]
      exact ⟨h.oo, zobL hl (by omega), csize hl (by omega) (by decide) (it (by rw [n_le (by omega) (by omega)]; omega) ⟨rfl, rfl⟩)⟩
    · have ih := ih k
      unfold zahead at ih ⊢
      rw [← hr2] at ih ⊢
      refine wpt_X6_countAhead_14 ?_; unfold wp_X6_countAhead_14
      rw [h.r3, n_p1]
      refine ⟨h.oo, zobL hl (by omega), csize hl (by omega) (by decide) (ie (by rw [n_le (by omega) (by omega)]; omega) ⟨h.oo, by rw [h.r3]; exact zobL hl (by omega), ?_⟩)⟩
      rw [h.r3]
      refine cget hl (by omega) (by omega) hi (by decide) ⟨h.ob hi, h.ob hi, h.ob ha, ?_⟩
      rw [h.a7 hi, h.a7 ha]
      refine ⟨fun c => ?_, fun c => ⟨h.oo, cI (c_isAhead h.so hw h.ri hr hi ha) (by decide) ⟨fun c2 => ?_, fun c2 => ?_⟩⟩⟩
      · rw [zcnt_f (fun z => c z.2.1)] at ih; exact ih
      · have c2 := zb_0.mp c2
        rw [zcnt_f (fun z => c2 z.2.2)] at ih; exact ih
      · have c2 := Classical.not_not.mp (fun z => c2 (zbz z))
        rw [zcnt_t ⟨fun e => zlt_irr (by rw [e] at c2; exact c2), Classical.not_not.mp c, c2⟩] at ih; exact ih
  have k0 := key 0 (by omega)
  have hd : zdesk (S 1165 (7 * a + 0)) = -1 ↔ ¬ zatdesk (S 1165 (7 * a + 0)) := by
    unfold zdesk zatdesk
    generalize S 1165 (7 * a + 0) = x
    by_cases c0 : x = 0
    · rw [if_pos c0]; simp [c0]
    · by_cases c1 : x = 2
      · rw [if_neg c0, if_pos c1]; simp [c1]
      · by_cases c2 : x = 4
        · rw [if_neg c0, if_neg c1, if_pos c2]; simp [c2]
        · by_cases c3 : x = 5
          · rw [if_neg c0, if_neg c1, if_neg c2, if_pos c3]; simp [c3]
          · rw [if_neg c0, if_neg c1, if_neg c2, if_neg c3]; simp [c0, c1, c2, c3]
  refine cI (c_deskOf h ha) (by decide) ⟨fun c => ?_, fun c => ⟨?_, rfl⟩⟩
  · rw [if_pos (Classical.not_not.mp (fun z => c (hd.mpr z)))]; exact k0 _
  · rw [if_neg (hd.mp (Classical.not_not.mp c))]
end ZCh
