/-! feed; what the days leave alone; missed -/
/-- the days touch no row beyond the askings, and no booklet's person, first day, asking that is there -/
def zmn (S S' : ZS9) : Prop := (∀ k, 7 * nA S ≤ k → S' 1165 k = S 1165 k) ∧ (∀ t k, t = 1167 ∨ t = 1168 ∨ t = 1170 → k < nB S → S' t k = S t k) ∧ nB S ≤ nB S' ∧ nA S' = nA S
theorem zmn.rf {S : ZS9} : zmn S S := ⟨fun _ _ => rfl, fun _ _ _ _ => rfl, Nat.le_refl _, rfl⟩
theorem zmn.tr {S S1 S2 : ZS9} (h : zmn S S1) (h2 : zmn S1 S2) : zmn S S2 :=
  ⟨fun k hk => (h2.1 k (by rw [h.2.2.2]; exact hk)).trans (h.1 k hk), fun t k ht hk => (h2.2.1 t k ht (Nat.lt_of_lt_of_le hk h.2.2.1)).trans (h.2.1 t k ht hk), Nat.le_trans h.2.2.1 h2.2.2.1, h2.2.2.2.trans h.2.2.2⟩
theorem zmn.up {S : ZS9} {t k : Nat} {x : Int32} (h : t ≠ 1167 ∧ t ≠ 1168 ∧ t ≠ 1170 ∧ (t = 1165 → k < 7 * nA S) ∧ (t ≠ 416 ∨ (k ≠ 66 ∧ k ≠ 71))) : zmn S (zup S t k x) := by
  refine ⟨fun j hj => zup_ne ?_, fun a j ha hj => zup_ne ?_, ?_, ?_⟩
  · rintro ⟨rfl, rfl⟩; have := h.2.2.2.1 rfl; omega
  · rintro ⟨rfl, rfl⟩; omega
  · unfold nB; rw [zup_ne (by omega)]; exact Nat.le_refl _
  · unfold nA; rw [zup_ne (by omega)]
theorem zmn.rw {S : ZS9} {L : List Nat} : zmn S (zrw S L) := ⟨fun k _ => zrw_st _ _ (by omega) (by omega), fun t k ht _ => zrw_st _ _ (by omega) (by omega), by unfold nB; rw [zrw_st _ _ (by omega) (by omega)]; exact Nat.le_refl _, by unfold nA; rw [zrw_st _ _ (by omega) (by omega)]⟩
theorem nA_up {S : ZS9} {t k : Nat} {x : Int32} (h : ¬ (t = 416 ∧ k = 66)) : nA (zup S t k x) = nA S := by unfold nA; rw [zup_ne (by omega)]
theorem nB_up {S : ZS9} {t k : Nat} {x : Int32} (h : ¬ (t = 416 ∧ k = 71)) : nB (zup S t k x) = nB S := by unfold nB; rw [zup_ne (by omega)]
theorem zmn.gets {S : ZS9} {a : Nat} (ha : a < nA S) : zmn S (zgets S a) := by
  have h2 : zmn S (zgets2 S a) := by
    unfold zgets2
    refine (zmn.up (by omega)).tr (zmn.up ?_)
    rw [nA_up (by omega)]; omega
  unfold zgets
  split
  · exact h2
  · refine (h2.tr (zmn.up ?_)).tr (zmn.up (by omega))
    rw [h2.2.2.2]; omega
theorem zmn.end {S : ZS9} {p i : Nat} : zmn S (zend S p i) := by
  refine ⟨fun k _ => zend_no (by omega), fun t k ht _ => zend_no (by omega), ?_, ?_⟩
  · unfold nB; rw [zend_no (by omega)]; exact Nat.le_refl _
  · unfold nA; rw [zend_no (by omega)]
theorem zmn.prints {S : ZS9} {a : Nat} (hR : RI S) (ha : a < nA S) : zmn S (zprints S a) := by
  have h1 : zmn S (zprint1 S a) := by
    unfold zprint1
    split
    · exact zmn.rf
    · exact zmn.end
  have hb1 : nB (zprint1 S a) = nB S := by unfold nB; rw [nb_p1]
  have hR1 : RI (zprint1 S a) := hR.nb zdk.p1 nb_p1
  unfold zprints
  generalize zprint1 S a = T at *
  have haT : a < nA T := by rw [h1.2.2.2]; exact ha
  have h2 : zmn T (zprint2 T a) := by
    refine ⟨fun k hk => ?_, fun t k ht hk => ?_, ?_, nA_dk zdk.p2⟩
    · unfold zprint2
      rw [zup_ne (by omega), zup_ne (by omega), zup_ne (by omega), zup_ne (by omega), zup_ne (by omega), zup_ne (by omega), zup_ne (by omega)]
    · unfold zprint2
      rw [zup_ne (by omega), zup_ne (by omega), zup_ne (by omega), zup_ne (by omega), zup_ne (by omega), zup_ne (by omega), zup_ne (by omega)]
    · have h71 := hR1.2.2.1
      have e9 : (T 416 71 + 1).toNatClampNeg = nB T + 1 := by rw [h71.1, n_p1, n_nn (by omega)]
      have : nB (zprint2 T a) = nB T + 1 := by unfold nB; rw [nb_p2, e9]; rfl
      omega
  refine h1.tr (h2.tr ?_)
  have hna2 : nA (zprint2 T a) = nA T := nA_dk zdk.p2
  generalize zprint2 T a = U at *
  unfold zprint3
  split
  · refine (zmn.up (by omega)).tr (zmn.gets ?_)
    rw [nA_up (by omega)]; omega
  · refine (zmn.up (by omega)).tr (zmn.up ?_)
    rw [nA_up (by omega)]; omega
theorem zmn.does {S : ZS9} {d a : Nat} (hR : RI S) (ha : a < nA S) : zmn S (zdoes S d a) := by
  unfold zdoes
  split
  · unfold zread
    refine ((zmn.up (by omega)).tr (zmn.up ?_)).tr (zmn.up ?_)
    · rw [nA_up (by omega)]; omega
    · rw [nA_up (by omega), nA_up (by omega)]; omega
  · split
    · exact zmn.up (by omega)
    · split
      · exact zmn.up (by omega)
      · exact zmn.prints hR ha
theorem zsrv_mn {d : Nat} (hd : d < 4) : ∀ {L : List Nat} {u : Int32} {S : ZS9}, RI S → (∀ a ∈ L, a < nA S) → zmn S (zsrv d L u S).2
  | [], _, _, _, _ => zmn.rf
  | a :: L, u, S, hR, hL => by
    unfold zsrv
    by_cases h : u < ztakes S d a ∨ (d = 3 ∧ ¬ zcan S)
    · rw [if_pos h]; exact zmn.rf
    · rw [if_neg h]
      have h1 : zmn S (zdoes S d a) := zmn.does hR (hL a List.mem_cons_self)
      refine h1.tr (zsrv_mn hd (hR.does (fun e => Classical.byContradiction fun z => h (Or.inr ⟨e, z⟩)) hd) (fun b hb => ?_))
      rw [h1.2.2.2]; exact hL b (List.mem_cons_of_mem _ hb)
theorem zworks_mn {S : ZS9} {d : Nat} {r : Int32} (hd : d < 4) (hR : RI S) : zmn S (zworks S d r) := by
  unfold zworks zwork1 zwork0
  have h0 : zmn S (zrw S (zline S r (rSt d) (nA S))) := zmn.rw
  refine (h0.tr (zsrv_mn hd (hR.rw _) (fun a ha => ?_))).tr (zmn.up (by omega))
  rw [h0.2.2.2]; exact (zline_mem.mp ha).1
theorem zpost_mn {S : ZS9} : ∀ {n : Nat}, n ≤ nA S → zmn S (zpost S n)
  | 0, _ => zmn.rf
  | n + 1, h => by
    have ih := zpost_mn (S := S) (n := n) (by omega)
    unfold zpost
    split
    · exact ih.tr (zmn.gets (by rw [ih.2.2.2]; omega))
    · exact ih
theorem zday0_mn {S : ZS9} : zmn S (zday0 S) := by
  unfold zday0 zcalls
  have h1 : zmn S (zup S 416 1 (S 416 1 + 1)) := zmn.up (by omega)
  refine (((h1.tr (zpost_mn ?_)).tr (zmn.up (by omega))).tr (zmn.up (by omega))).tr (zmn.up (by omega))
  rw [h1.2.2.2]; exact Nat.le_refl _
theorem zday_mn {S : ZS9} {r : Int32} (hR : RI S) : zmn S (zday S r) := by
  have g0 := zday0_RI hR
  have g1 := zworks_RI (d := 0) (r := r) (by decide) g0
  have g2 := zworks_RI (d := 1) (r := r) (by decide) g1
  have g3 := zworks_RI (d := 2) (r := r) (by decide) g2
  exact (((zday0_mn.tr (zworks_mn (by decide) g0)).tr (zworks_mn (by decide) g1)).tr (zworks_mn (by decide) g2)).tr (zworks_mn (by decide) g3)
theorem zdays_RI {S : ZS9} {r : Int32} (hR : RI S) : ∀ {n : Nat}, RI (zdays r n S)
  | 0 => hR
  | n + 1 => zday_RI (zdays_RI hR)
theorem zdays_dk {S : ZS9} {r : Int32} : ∀ {n : Nat}, zdk S (zdays r n S)
  | 0 => zdk.rf
  | n + 1 => zdays_dk.tr zday_dk
theorem zdays_mn {S : ZS9} {r : Int32} (hR : RI S) : ∀ {n : Nat}, zmn S (zdays r n S)
  | 0 => zmn.rf
  | n + 1 => (zdays_mn hR).tr (zday_mn (zdays_RI hR))
/-- as zsim, but for the rows of booklets that are not there -/
def zsimB (S S' : ZS9) : Prop := ∀ t k, ¬ zscr t k → ¬ ((t = 1167 ∨ t = 1168 ∨ t = 1169 ∨ t = 1170) ∧ nB S ≤ k) → S' t k = S t k
def zkeep (S : ZS9) : ZS9 := fun t k => if t = 1179 ∧ k < 7 * nA S then S 1165 k else if t = 1180 ∧ k < nB S then S 1169 k else S t k
noncomputable def zmiss (S : ZS9) (r : Int32) (n : Nat) : ZS9 := zdays r n (zkeep (zs S))
/-- was it missed, the numbers behind the days being T -/
def zmsd (S T : ZS9) (a : Nat) : Prop := ¬ 6 < S 1165 (7 * a + 0) ∧ S 1156 a ≤ T 416 1 ∧ (T 1165 (7 * a + 3) < 0 ∨ S 1156 a < T 1165 (7 * a + 3))
noncomputable def zmissed (S : ZS9) (r : Int32) (n : Nat) : Int32 := zcnt (zmsd S (zmiss S r n)) (nA S)
noncomputable def fMissed (S : ZS9) (r n : Int32) : ZO := fCalls3 (¬ (inn r 0 2 ∧ inn n 0 60)) (1, 0, S) (0, zmissed S r n.toNatClampNeg, S)
def rB (S : ZS9) (o : ZO) : Option Value → ZS9 → Prop := fun r S' => (∃ y, r = some (.int y) ∧ (o.1 = 0 → y = o.2.1)) ∧ S' 416 0 = o.1 ∧ zsimB S S'
theorem inn2 {r : Int32} (h : inn r 0 2) : r = 0 ∨ r = 1 ∨ r = 2 := by
  obtain ⟨j, hj, rfl⟩ := inn_nat (n := 2) (by omega) h
  match j, hj with
  | 0, _ => exact Or.inl rfl
  | 1, _ => exact Or.inr (Or.inl rfl)
  | 2, _ => exact Or.inr (Or.inr rfl)
theorem zdc_no {t j : Nat} (hc : ¬ zscr t j) (h1 : t ≠ 1165) (h2 : ¬ (t = 1167 ∨ t = 1168 ∨ t = 1170)) (h3 : t ≠ 1169) (h4 : t = 416 → j ≠ 1 ∧ j ≠ 43 ∧ j ≠ 71 ∧ j ≠ 73 ∧ j ≠ 74 ∧ j ≠ 75 ∧ j ≠ 76) : ¬ zdc t j := by
  rintro (h | h | h | h | h | h | ⟨h, h'⟩)
  · exact h1 h
  · exact h2 (Or.inl h)
  · exact h2 (Or.inr (Or.inl h))
  · exact h3 h
  · exact h2 (Or.inr (Or.inr h))
  · exact hc (by subst h; unfold zscr; omega)
  · obtain ⟨q1, q2, q3, q4, q5, q6, q7⟩ := h4 h
    rcases h' with e | e | e | e | e | e | e | e
    · exact q1 e
    · exact q2 e
    · exact q3 e
    · exact q4 e
    · exact q5 e
    · exact q6 e
    · exact q7 e
    · exact hc (by subst h; subst e; unfold zscr; omega)
section ZRl
variable {E : ZE} {l : Launch} {S : ZS9}
theorem r_feed (hT : S 416 3 = Int32.ofNat (nTp S) ∧ nTp S ≤ 400) (a b c d e : Int32) : rMet E l mX12_feed 1 0 [.int a, .int b, .int c, .int d, .int e] S (rR (fFeed S a b c d e)) := by
  refine r_meth (by decide) (Nat.le_of_ble_eq_true rfl) (by simp [Value.category]) (fun G hK => rwpt_X12_feed_0 hK ?_); unfold rwp_X12_feed_0
  intro S1 e1; have z1 : ∀ t k, ¬ (t = 416 ∧ k = 0) → S1 t k = S t k := fun t k h => by rw [e1, zup_at, if_neg h]
  have s1 : zsim S S1 := by rw [e1]; exact zs0 zsim.rf
  have t1 : S1 416 0 = 0 := by rw [e1]; exact zup_s _ _ _ _
  rw [z1 416 3 (by decide)]
  refine ⟨fun h => ?_, fun h => ?_⟩
  · have hle : nTp S + 20 ≤ 400 := by
      rw [hT.1, show (20 : Int32) = Int32.ofNat 20 from rfl, n_add, show (400 : Int32) = Int32.ofNat 400 from rfl, n_le (by omega) (by omega)] at h
      exact h
    have ef : fFeed S a b c d e = (0, S 416 3 + 20, zup (zfeed S (z5 a b c d e) 20) 416 3 (S 416 3 + 20)) := by unfold fFeed; rw [f3t h]
    rw [ef]
    refine ⟨n_in (i := 0) (by omega) (by omega), fun S2 e2 => ⟨n_in (i := 1) (by omega) (by omega), fun S3 e3 => ⟨n_in (i := 2) (by omega) (by omega), fun S4 e4 => ⟨n_in (i := 3) (by omega) (by omega), fun S5 e5 => ⟨n_in (i := 4) (by omega) (by omega), fun S6 e6 => ?_⟩⟩⟩⟩⟩
    have u0 : (0 : Int32).toNatClampNeg = 0 := by decide
    have u1 : (1 : Int32).toNatClampNeg = 1 := by decide
    have u2 : (2 : Int32).toNatClampNeg = 2 := by decide
    have u3 : (3 : Int32).toNatClampNeg = 3 := by decide
    have u4 : (4 : Int32).toNatClampNeg = 4 := by decide
    rw [u0] at e2; rw [u1] at e3; rw [u2] at e4; rw [u3] at e5; rw [u4] at e6
    have h5 : ∀ j, j < 5 → S6 1109 j = z5 a b c d e j := by
      intro j hj
      rw [e6, e5, e4, e3, e2]
      unfold z5
      match j, hj with
      | 0, _ => rw [zup_ne (by omega), zup_ne (by omega), zup_ne (by omega), zup_ne (by omega), zup_s]; rfl
      | 1, _ => rw [zup_ne (by omega), zup_ne (by omega), zup_ne (by omega), zup_s]; rfl
      | 2, _ => rw [zup_ne (by omega), zup_ne (by omega), zup_s]; rfl
      | 3, _ => rw [zup_ne (by omega), zup_s]; rfl
      | 4, _ => rw [zup_s]; rfl
    have s6 : ∀ t k, t ≠ 1109 → S6 t k = S1 t k := fun t k ht => by rw [e6, e5, e4, e3, e2, zup_ne (by omega), zup_ne (by omega), zup_ne (by omega), zup_ne (by omega), zup_ne (by omega)]
    have key : ∀ i, i ≤ 20 → ∀ T, (∀ t k, T t k = if t = 1602 ∧ nTp S ≤ k ∧ k < nTp S + i then zbyte S (z5 a b c d e) (k - nTp S) else S6 t k) → ∀ k, zW E l mX12_feed 1 0 (zput G S) (rQ G (rR (0, S 416 3 + 20, zup (zfeed S (z5 a b c d e) 20) 416 3 (S 416 3 + 20)))) k 60 [some (.ref (zp 416 0)), none, none, none, none, none, some (.int (Int32.ofNat i))] [] (zput G T) := by
      refine zdown (fun T hTe k => ?_) (fun i hi ih T hTe k => ?_)
      · refine rwpt_X12_feed_60 hK ?_; unfold rwp_X12_feed_60
        have e9 : T 416 3 = S 416 3 := by rw [hTe, if_neg (by omega), s6 _ _ (by decide), z1 _ _ (by decide)]
        refine it (by decide) (fun U eU => ?_)
        rw [eU, e9]
        refine rR0 (zsim.cg (fun t k hc => ?_)) ?_ (zup_s _ _ _ _)
        · rw [hTe]
          unfold zfeed
          split
          · rfl
          · rw [s6 _ _ (fun e => hc (by unfold zscr; omega))]; exact s1 t k hc
        · rw [zup_ne (by omega), hTe, if_neg (by omega), s6 _ _ (by decide), t1]
      · refine rwpt_X12_feed_60 hK ?_; unfold rwp_X12_feed_60
        have e9 : T 416 3 = Int32.ofNat (nTp S) := by rw [hTe, if_neg (by omega), s6 _ _ (by decide), z1 _ _ (by decide), hT.1]
        have hd4 : i / 4 < 5 := by omega
        rw [e9, n_p1, show (4 : Int32) = Int32.ofNat 4 from rfl, n_rem (by omega) (by omega), n_div (by omega) (by omega), n_add, n_nn (by omega), n_nn (by omega)]
        refine ie (by rw [show (20 : Int32) = Int32.ofNat 20 from rfl, n_le (by omega) (by omega)]; omega) ⟨n_in hd4 (by omega), n_in (by omega) (by omega), fun U eU => ih U (fun t k => ?_) _⟩
        have e10 : T 1109 (i / 4) = z5 a b c d e (i / 4) := by rw [hTe, if_neg (by omega), h5 _ hd4]
        rw [eU, Int8.toInt8_toInt32, e10]
        by_cases h2 : t = 1602 ∧ k = nTp S + i
        · obtain ⟨rfl, rfl⟩ := h2
          rw [zup_s, if_pos ⟨rfl, by omega, by omega⟩, show nTp S + i - nTp S = i by omega]; rfl
        · rw [zup_ne h2, hTe]
          by_cases h3 : t = 1602 ∧ nTp S ≤ k ∧ k < nTp S + i
          · rw [if_pos h3, if_pos (by omega)]
          · rw [if_neg h3, if_neg (by omega)]
    exact key 0 (by omega) S6 (fun t k => by rw [if_neg (by omega)]) _
  · unfold fFeed; rw [f3f h]; exact rR0 s1 t1 rfl
theorem r_missed (hR : RI S) (r n : Int32) : rMet E l mX12_missed 6 0 [.int r, .int n] S (rB S (fMissed S r n)) := by
  have hA := hR.1
  have hB := hR.2.2.1
  refine r_meth (by decide) (Nat.le_of_ble_eq_true rfl) (by simp [Value.category]) (fun G hK => rwpt_X12_missed_0 hK ?_); unfold rwp_X12_missed_0
  intro S1 e1; have z1 : ∀ t k, ¬ (t = 416 ∧ k = 0) → S1 t k = S t k := fun t k h => by rw [e1, zup_at, if_neg h]
  have s1 : zsim S S1 := by rw [e1]; exact zs0 zsim.rf
  have t1 : S1 416 0 = 0 := by rw [e1]; exact zup_s _ _ _ _
  have hR1 : RI S1 := nS1 z1 hR
  have bad : ¬ (inn r 0 2 ∧ inn n 0 60) → rB S (fMissed S r n) (some (.int 0)) (zup S1 416 0 1) := by
    intro h
    unfold fMissed; rw [f3t h]
    exact ⟨⟨_, rfl, fun z => absurd z (show ¬ (1 : Int32) = 0 by decide)⟩, zup_s _ _ _ _, fun t k hc _ => zs0 s1 t k hc⟩
  have good : inn r 0 2 → inn n 0 60 → ∀ k, zW E l mX12_missed 6 0 (zput G S) (rQ G (rB S (fMissed S r n))) k 41 [some (.ref (zp 416 0)), some (.int r), some (.int n), some (.int 0), none, none, none, none, none, none, none, none] [] (zput G S1) := by
    intro hr hn k
    obtain ⟨m, hm, rfl⟩ := inn_nat (n := 60) (by omega) hn
    have hr3 := inn2 hr
    have ef : fMissed S r (Int32.ofNat m) = (0, zmissed S r m, S) := by unfold fMissed; rw [f3f (nn ⟨hr, hn⟩), n_nn (by omega)]
    rw [ef]
    have nA1 : nA S1 = nA S := by unfold nA; rw [z1 _ _ (by omega)]
    have nB1 : nB S1 = nB S := by unfold nB; rw [z1 _ _ (by omega)]
    -- the numbers with what is kept
    have hK0 : zkeep (zs S) = zkeep S1 := by unfold zs; rw [e1]
    have hKe : ∀ t k, t ≠ 1179 → t ≠ 1180 → zkeep S1 t k = S1 t k := fun t k h h2 => by unfold zkeep; rw [if_neg (fun z => h z.1), if_neg (fun z => h2 z.1)]
    have hKR : RI (zkeep S1) := by
      refine hR1.k0 ⟨hKe _ _ (by decide) (by decide), hKe _ _ (by decide) (by decide), hKe _ _ (by decide) (by decide), fun a => hKe _ _ (by decide) (by decide), fun a => hKe _ _ (by decide) (by decide)⟩ ?_
      unfold nB
      rw [hKe _ _ (by decide) (by decide)]
      exact hR1.2.2.1
    have hKA : nA (zkeep S1) = nA S := by unfold nA; rw [hKe _ _ (by decide) (by decide), z1 _ _ (by omega)]
    have hKB : nB (zkeep S1) = nB S := by unfold nB; rw [hKe _ _ (by decide) (by decide), z1 _ _ (by omega)]
    have hUR := zdays_RI (r := r) (n := m) hKR
    have hUk := zdays_dk (S := zkeep S1) (r := r) (n := m)
    have hUm := zdays_mn (r := r) (n := m) hKR
    have hmi : zmiss S r m = zdays r m (zkeep S1) := by unfold zmiss; rw [hK0]
    have hms : zmissed S r m = zcnt (zmsd S (zdays r m (zkeep S1))) (nA S) := by unfold zmissed; rw [hmi]
    rw [hms]
    -- from the last loop backwards
    have l289 : ∀ x10, x10 = zcnt (zmsd S (zdays r m (zkeep S1))) (nA S) → ∀ T, (∀ k, k < 7 * nA S → T 1165 k = S 1165 k) → (∀ t k, ¬ (t = 1165 ∧ k < 7 * nA S) → T t k = zdays r m (zkeep S1) t k) → ∀ k, zW E l mX12_missed 6 0 (zput G S) (rQ G (rB S (0, zcnt (zmsd S (zdays r m (zkeep S1))) (nA S), S))) k 289 [some (.ref (zp 416 0)), none, none, some (.int (S 416 1)), some (.int (S 416 71)), some (.int (S 416 43)), some (.int (S 416 73)), some (.int (S 416 74)), some (.int (S 416 75)), some (.int (S 416 76)), some (.int x10), some (.int 0)] [] (zput G T) := by
      intro x10 hx T hT1 hT2 k
      have key : ∀ i, i ≤ nB S → ∀ U, (∀ k, k < i → U 1169 k = S 1169 k) → (∀ t k, ¬ (t = 1169 ∧ k < i) → U t k = T t k) → ∀ k, zW E l mX12_missed 6 0 (zput G S) (rQ G (rB S (0, zcnt (zmsd S (zdays r m (zkeep S1))) (nA S), S))) k 289 [some (.ref (zp 416 0)), none, none, some (.int (S 416 1)), some (.int (S 416 71)), some (.int (S 416 43)), some (.int (S 416 73)), some (.int (S 416 74)), some (.int (S 416 75)), some (.int (S 416 76)), some (.int x10), some (.int (Int32.ofNat i))] [] (zput G U) := by
        refine zdown (fun U hU1 hU2 k => ?_) (fun i hi ih U hU1 hU2 k => ?_)
        · refine rwpt_X12_missed_289 hK ?_; unfold rwp_X12_missed_289
          refine it (by rw [hB.1, n_le (by omega) (by omega)]; omega) (fun U1 f1 U2 f2 U3 f3 U4 f4 U5 f5 U6 f6 U7 f7 => ⟨⟨_, rfl, fun _ => hx⟩, ?_, fun t j hc hb => ?_⟩)
          · rw [f7, f6, f5, f4, f3, f2, f1, zup_ne (by omega), zup_ne (by omega), zup_ne (by omega), zup_ne (by omega), zup_ne (by omega), zup_ne (by omega), zup_ne (by omega), hU2 _ _ (by omega), hT2 _ _ (by omega), hUk _ _ (by unfold zdc; omega), hKe _ _ (by decide) (by decide), t1]
          · rw [f7, f6, f5, f4, f3, f2, f1]
            by_cases c1 : t = 416 ∧ j = 76
            · obtain ⟨rfl, rfl⟩ := c1; rw [zup_s]
            rw [zup_ne c1]
            by_cases c2 : t = 416 ∧ j = 75
            · obtain ⟨rfl, rfl⟩ := c2; rw [zup_s]
            rw [zup_ne c2]
            by_cases c3 : t = 416 ∧ j = 74
            · obtain ⟨rfl, rfl⟩ := c3; rw [zup_s]
            rw [zup_ne c3]
            by_cases c4 : t = 416 ∧ j = 73
            · obtain ⟨rfl, rfl⟩ := c4; rw [zup_s]
            rw [zup_ne c4]
            by_cases c5 : t = 416 ∧ j = 43
            · obtain ⟨rfl, rfl⟩ := c5; rw [zup_s]
            rw [zup_ne c5]
            by_cases c6 : t = 416 ∧ j = 71
            · obtain ⟨rfl, rfl⟩ := c6; rw [zup_s]
            rw [zup_ne c6]
            by_cases c7 : t = 416 ∧ j = 1
            · obtain ⟨rfl, rfl⟩ := c7; rw [zup_s]
            rw [zup_ne c7]
            by_cases c8 : t = 1169 ∧ j < nB S
            · obtain ⟨rfl, c8⟩ := c8; exact hU1 j c8
            rw [hU2 t j c8]
            by_cases c9 : t = 1165 ∧ j < 7 * nA S
            · obtain ⟨rfl, c9⟩ := c9; exact hT1 j c9
            rw [hT2 t j c9]
            have hfin : zkeep S1 t j = S t j := by
              rw [hKe t j (fun e => hc (by subst e; unfold zscr; simp)) (fun e => hc (by subst e; unfold zscr; simp))]
              exact s1 t j hc
            rw [← hfin]
            by_cases c10 : t = 1165
            · subst c10
              exact hUm.1 j (by rw [hKA]; exact Nat.le_of_not_lt (fun z => c9 ⟨rfl, z⟩))
            by_cases c11 : t = 1167 ∨ t = 1168 ∨ t = 1170
            · refine hUm.2.1 t j c11 ?_
              rw [hKB]
              refine Nat.lt_of_not_le (fun z => hb ⟨?_, z⟩)
              rcases c11 with c | c | c
              · exact Or.inl c
              · exact Or.inr (Or.inl c)
              · exact Or.inr (Or.inr (Or.inr c))
            · refine hUk t j (zdc_no hc c10 c11 (fun e => ?_) (fun e => ⟨fun z => c7 ⟨e, z⟩, fun z => c5 ⟨e, z⟩, fun z => c6 ⟨e, z⟩, fun z => c4 ⟨e, z⟩, fun z => c3 ⟨e, z⟩, fun z => c2 ⟨e, z⟩, fun z => c1 ⟨e, z⟩⟩))
              rcases Nat.lt_or_ge j (nB S) with z | z
              · exact c8 ⟨e, z⟩
              · exact hb ⟨Or.inr (Or.inr (Or.inl e)), z⟩
        · refine rwpt_X12_missed_289 hK ?_; unfold rwp_X12_missed_289
          rw [n_nn (by omega), n_p1]
          refine ie (by rw [hB.1, n_le (by omega) (by omega)]; omega) ⟨n_in (by omega) (by omega), n_in (by omega) (by omega), fun U2 f2 => ih U2 (fun k hk => ?_) (fun t k hc => ?_) _⟩
          · rw [f2]
            by_cases e : k = i
            · subst e
              rw [zup_s, hU2 _ _ (by omega), hT2 _ _ (by omega), hUk _ _ (by unfold zdc; omega)]
              unfold zkeep
              rw [if_neg (by omega), if_pos ⟨rfl, by rw [nB1]; exact hi⟩, z1 _ _ (by omega)]
            · rw [zup_ne (by omega)]; exact hU1 k (by omega)
          · rw [f2, zup_ne (by omega)]; exact hU2 t k (by omega)
      exact key 0 (by omega) T (fun k hk => by omega) (fun t k _ => rfl) _
    have l254 : ∀ x10, x10 = zcnt (zmsd S (zdays r m (zkeep S1))) (nA S) → ∀ k, zW E l mX12_missed 6 0 (zput G S) (rQ G (rB S (0, zcnt (zmsd S (zdays r m (zkeep S1))) (nA S), S))) k 254 [some (.ref (zp 416 0)), none, none, some (.int (S 416 1)), some (.int (S 416 71)), some (.int (S 416 43)), some (.int (S 416 73)), some (.int (S 416 74)), some (.int (S 416 75)), some (.int (S 416 76)), some (.int x10), some (.int 0)] [] (zput G (zdays r m (zkeep S1))) := by
      intro x10 hx k
      have key : ∀ i, i ≤ 7 * nA S → ∀ U, (∀ k, k < i → U 1165 k = S 1165 k) → (∀ t k, ¬ (t = 1165 ∧ k < i) → U t k = zdays r m (zkeep S1) t k) → ∀ k, zW E l mX12_missed 6 0 (zput G S) (rQ G (rB S (0, zcnt (zmsd S (zdays r m (zkeep S1))) (nA S), S))) k 254 [some (.ref (zp 416 0)), none, none, some (.int (S 416 1)), some (.int (S 416 71)), some (.int (S 416 43)), some (.int (S 416 73)), some (.int (S 416 74)), some (.int (S 416 75)), some (.int (S 416 76)), some (.int x10), some (.int (Int32.ofNat i))] [] (zput G U) := by
        have e66 : ∀ U : ZS9, (∃ i, ∀ t k, ¬ (t = 1165 ∧ k < i) → U t k = zdays r m (zkeep S1) t k) → U 416 66 = Int32.ofNat (nA S) := by
          rintro U ⟨i, hU⟩
          rw [hU _ _ (by omega), hUk _ _ (by unfold zdc; omega), hKe _ _ (by decide) (by decide), z1 _ _ (by omega), hA.1]
        refine zdown (fun U hU1 hU2 k => ?_) (fun i hi ih U hU1 hU2 k => ?_)
        · refine rwpt_X12_missed_254 hK ?_; unfold rwp_X12_missed_254
          rw [e66 U ⟨_, hU2⟩, show (7 : Int32) = Int32.ofNat 7 from rfl, n_mul]
          exact it (by rw [n_le (by omega) (by omega)]; omega) (l289 x10 hx U hU1 hU2 _)
        · refine rwpt_X12_missed_254 hK ?_; unfold rwp_X12_missed_254
          rw [e66 U ⟨_, hU2⟩, show (7 : Int32) = Int32.ofNat 7 from rfl, n_mul, n_nn (by omega), n_p1]
          refine ie (by rw [n_le (by omega) (by omega)]; omega) ⟨n_in (by omega) (by omega), n_in (by omega) (by omega), fun U2 f2 => ih U2 (fun k hk => ?_) (fun t k hc => ?_) _⟩
          · rw [f2]
            by_cases e : k = i
            · subst e
              rw [zup_s, hU2 _ _ (by omega), hUk _ _ (by unfold zdc; omega)]
              unfold zkeep
              rw [if_pos ⟨rfl, by rw [nA1]; exact hi⟩, z1 _ _ (by omega)]
            · rw [zup_ne (by omega)]; exact hU1 k (by omega)
          · rw [f2, zup_ne (by omega)]; exact hU2 t k (by omega)
      exact key 0 (by omega) _ (fun k hk => by omega) (fun t k _ => rfl) _
    have l165 : ∀ k, zW E l mX12_missed 6 0 (zput G S) (rQ G (rB S (0, zcnt (zmsd S (zdays r m (zkeep S1))) (nA S), S))) k 165 [some (.ref (zp 416 0)), none, none, some (.int (S 416 1)), some (.int (S 416 71)), some (.int (S 416 43)), some (.int (S 416 73)), some (.int (S 416 74)), some (.int (S 416 75)), some (.int (S 416 76)), some (.int 0), some (.int 0)] [] (zput G (zdays r m (zkeep S1))) := by
      intro k
      have u66 : zdays r m (zkeep S1) 416 66 = Int32.ofNat (nA S) := by rw [hUk _ _ (by unfold zdc; omega), hKe _ _ (by decide) (by decide), z1 _ _ (by omega), hA.1]
      have u79 : ∀ j, j < 7 * nA S → zdays r m (zkeep S1) 1179 j = S 1165 j := fun j hj => by
        rw [hUk _ _ (by unfold zdc; omega)]
        unfold zkeep
        rw [if_pos ⟨rfl, by rw [nA1]; exact hj⟩, z1 _ _ (by omega)]
      have u56 : ∀ a, zdays r m (zkeep S1) 1156 a = S 1156 a := fun a => by rw [hUk _ _ (by unfold zdc; omega), hKe _ _ (by decide) (by decide), z1 _ _ (by omega)]
      generalize zdays r m (zkeep S1) = U at *
      have key : ∀ i, i ≤ nA S → ∀ k, zW E l mX12_missed 6 0 (zput G S) (rQ G (rB S (0, zcnt (zmsd S U) (nA S), S))) k 165 [some (.ref (zp 416 0)), none, none, some (.int (S 416 1)), some (.int (S 416 71)), some (.int (S 416 43)), some (.int (S 416 73)), some (.int (S 416 74)), some (.int (S 416 75)), some (.int (S 416 76)), some (.int (zcnt (zmsd S U) i)), some (.int (Int32.ofNat i))] [] (zput G U) := by
        refine zdown (fun k => ?_) (fun i hi ih k => ?_)
        · refine rwpt_X12_missed_165 hK ?_; unfold rwp_X12_missed_165
          exact it (by rw [u66, n_le (by omega) (by omega)]; omega) (l254 _ rfl _)
        · have ih := ih k
          refine rwpt_X12_missed_165 hK ?_; unfold rwp_X12_missed_165
          rw [u66, show (7 : Int32) = Int32.ofNat 7 from rfl, n_mul, show (0 : Int32) = Int32.ofNat 0 from rfl, n_add, n_nn (by omega), n_nn (by omega), n_p1, ← show (0 : Int32) = Int32.ofNat 0 from rfl, Int32.add_zero, u79 _ (by omega), u56]
          refine ie (by rw [n_le (by omega) (by omega)]; omega) ⟨n_in (by omega) (by omega), fun h => ?_, fun h => ⟨n_in (by omega) (by omega), fun h2 => ?_, fun h2 => ?_⟩⟩
          · rw [zcnt_f (fun z => z.1 h)] at ih; exact ih
          · refine gI (r_now (a := i) (w := 3) (by omega)) (by decide) ⟨fun h3 => ?_, fun h3 => gI (r_now (a := i) (w := 3) (by omega)) (by decide) ⟨n_in (by omega) (by omega), ?_⟩⟩
            · rw [zcnt_t ⟨h, h2, Or.inl h3⟩] at ih; exact ih
            · rw [u56]
              refine ⟨fun h4 => ?_, fun h4 => ?_⟩
              · rw [zcnt_t ⟨h, h2, Or.inr h4⟩] at ih; exact ih
              · rw [zcnt_f (fun z => by rcases z.2.2 with z | z; exact h3 z; exact h4 z)] at ih; exact ih
          · rw [zcnt_f (fun z => h2 z.2.1)] at ih; exact ih
      exact key 0 (by omega) _
    have l142 : ∀ i, i ≤ m → ∀ k, zW E l mX12_missed 6 0 (zput G S) (rQ G (rB S (0, zcnt (zmsd S (zdays r m (zkeep S1))) (nA S), S))) k 142 [some (.ref (zp 416 0)), some (.int r), some (.int (Int32.ofNat m)), some (.int (S 416 1)), some (.int (S 416 71)), some (.int (S 416 43)), some (.int (S 416 73)), some (.int (S 416 74)), some (.int (S 416 75)), some (.int (S 416 76)), some (.int (Int32.ofNat i)), none] [] (zput G (zdays r i (zkeep S1))) := by
      refine zdown (fun k => ?_) (fun i hi ih k => ?_)
      · refine rwpt_X12_missed_142 hK ?_; unfold rwp_X12_missed_142
        exact it (by rw [n_le (by omega) (by omega)]; omega) (l165 _)
      · refine rwpt_X12_missed_142 hK ?_; unfold rwp_X12_missed_142
        rw [n_p1]
        exact ie (by rw [n_le (by omega) (by omega)]; omega) (gV (r_day (zdays_RI hKR) hr3) (by decide) (ih k))
    have l72 : ∀ i, i ≤ nB S → ∀ T, (∀ t k, T t k = if t = 1179 ∧ k < 7 * nA S then S1 1165 k else if t = 1180 ∧ k < i then S1 1169 k else S1 t k) → ∀ k, zW E l mX12_missed 6 0 (zput G S) (rQ G (rB S (0, zcnt (zmsd S (zdays r m (zkeep S1))) (nA S), S))) k 72 [some (.ref (zp 416 0)), some (.int r), some (.int (Int32.ofNat m)), some (.int (Int32.ofNat i)), none, none, none, none, none, none, none, none] [] (zput G T) := by
      refine zdown (fun T hT k => ?_) (fun i hi ih T hT k => ?_)
      · have eT : T = zkeep S1 := by funext t j; rw [hT]; unfold zkeep; rw [nA1, nB1]
        have e4 : ∀ j, T 416 j = S1 416 j := fun j => by rw [hT, if_neg (by omega), if_neg (by omega)]
        have := l142 0 (by omega) k
        refine rwpt_X12_missed_72 hK ?_; unfold rwp_X12_missed_72
        rw [e4, e4, e4, e4, e4, e4, e4, z1 _ _ (by omega), z1 _ _ (by omega), z1 _ _ (by omega), z1 _ _ (by omega), z1 _ _ (by omega), z1 _ _ (by omega), z1 _ _ (by omega), eT]
        exact it (by rw [hB.1, n_le (by omega) (by omega)]; omega) this
      · refine rwpt_X12_missed_72 hK ?_; unfold rwp_X12_missed_72
        rw [n_nn (by omega), n_p1]
        refine ie (by rw [hT, if_neg (by omega), if_neg (by omega), z1 _ _ (by omega), hB.1, n_le (by omega) (by omega)]; omega) ⟨n_in (by omega) (by omega), n_in (by omega) (by omega), fun U eU => ih U (fun t j => ?_) _⟩
        rw [eU, hT 1169, if_neg (by omega), if_neg (by omega)]
        by_cases h2 : t = 1180 ∧ j = i
        · obtain ⟨rfl, rfl⟩ := h2; rw [zup_s, if_neg (by omega), if_pos ⟨rfl, by omega⟩]
        · rw [zup_ne h2, hT]
          by_cases h3 : t = 1179 ∧ j < 7 * nA S
          · rw [if_pos h3, if_pos h3]
          · rw [if_neg h3, if_neg h3]
            by_cases h4 : t = 1180 ∧ j < i
            · rw [if_pos h4, if_pos (by omega)]
            · rw [if_neg h4, if_neg (by omega)]
    have l41 : ∀ i, i ≤ 7 * nA S → ∀ T, (∀ t k, T t k = if t = 1179 ∧ k < i then S1 1165 k else S1 t k) → ∀ k, zW E l mX12_missed 6 0 (zput G S) (rQ G (rB S (0, zcnt (zmsd S (zdays r m (zkeep S1))) (nA S), S))) k 41 [some (.ref (zp 416 0)), some (.int r), some (.int (Int32.ofNat m)), some (.int (Int32.ofNat i)), none, none, none, none, none, none, none, none] [] (zput G T) := by
      refine zdown (fun T hT k => ?_) (fun i hi ih T hT k => ?_)
      · refine rwpt_X12_missed_41 hK ?_; unfold rwp_X12_missed_41
        rw [hT, if_neg (by omega), z1 _ _ (by omega), hA.1, show (7 : Int32) = Int32.ofNat 7 from rfl, n_mul]
        refine it (by rw [n_le (by omega) (by omega)]; omega) (l72 0 (by omega) T (fun t j => ?_) _)
        rw [hT]
        by_cases h3 : t = 1179 ∧ j < 7 * nA S
        · rw [if_pos h3, if_pos h3]
        · rw [if_neg h3, if_neg h3, if_neg (by omega)]
      · refine rwpt_X12_missed_41 hK ?_; unfold rwp_X12_missed_41
        rw [hT 416 66, if_neg (by omega), z1 416 66 (by omega), hA.1, show (7 : Int32) = Int32.ofNat 7 from rfl, n_mul, n_nn (by omega), n_p1]
        refine ie (by rw [n_le (by omega) (by omega)]; omega) ⟨n_in (by omega) (by omega), n_in (by omega) (by omega), fun U eU => ih U (fun t j => ?_) _⟩
        rw [eU, hT 1165, if_neg (by omega)]
        by_cases h2 : t = 1179 ∧ j = i
        · obtain ⟨rfl, rfl⟩ := h2; rw [zup_s, if_pos ⟨rfl, by omega⟩]
        · rw [zup_ne h2, hT]
          by_cases h3 : t = 1179 ∧ j < i
          · rw [if_pos h3, if_pos (by omega)]
          · rw [if_neg h3, if_neg (by omega)]
    exact l41 0 (by omega) S1 (fun t j => by rw [if_neg (by omega)]) k
  refine sI (fun _ => s_in _ _ _) (by decide) ⟨fun h => gI (r_thr1 _) (by decide) (ie (by decide) (bad (fun z => (zb_0.mp h) z.1))), fun h => ?_⟩
  have h : inn r 0 2 := Classical.not_not.mp (fun z => h (zbz z))
  refine sI (fun _ => s_in _ _ _) (by decide) ⟨fun h2 => gI (r_thr0 _) (by decide) (it rfl (good h (Classical.not_not.mp (fun z => h2 (zbz z))) _)), fun h2 => gI (r_thr1 _) (by decide) (ie (by decide) (bad (fun z => (zb_0.mp (Classical.not_not.mp h2)) z.2)))⟩
end ZRl
