/-! what is known of the numbers between two calls -/
def SD (S : ZS9) : Prop := (∀ a, S 1165 (7 * a + 6) = 0 ∨ S 1165 (7 * a + 6) = 1) ∧ (∀ a, S 1165 (7 * a + 0) = 6 → zin (S 1165 (7 * a + 1)) (nB S)) ∧ ∀ a, ¬ S 1165 (7 * a + 0) < 0 ∧ (S 1165 (7 * a + 0) = 7 → ¬ S 1165 (7 * a + 3) < 0 ∧ S 1165 (7 * a + 3) ≤ 1000)
def TD (S : ZS9) : Prop := ¬ S 416 1 < 0 ∧ S 416 1 ≤ 1000
/-- what no day changes -/
def SK (S : ZS9) : Prop := TB S ∧ (S 416 19 = Int32.ofNat (nL S) ∧ nL S ≤ 12) ∧ (S 416 42 = 0 ∨ S 416 42 = 1 ∨ S 416 42 = 2) ∧ (∀ p, p < nP S → ¬ S 1129 p < (-40000)) ∧ (∀ p q, p < 80 → q < 80 → nP S ≤ p ∨ nP S ≤ q → S 1135 (80 * p + q) = 0) ∧ ∀ p, nP S ≤ p → S 2133 p = 0
def SB (S : ZS9) : Prop := ∀ p, p < nP S → ¬ S 416 1 < S 1129 p
/-- nothing of the askings that are still to come -/
def SN (S : ZS9) : Prop := ∀ a, nA S ≤ a → S 1165 (7 * a + 5) = 0 ∧ S 1165 (7 * a + 6) = 0
def SI (S : ZS9) : Prop := SK S ∧ SB S ∧ SD S ∧ TD S ∧ SN S
theorem zin_le {x : Int32} {n m : Nat} (h : zin x n) (hm : n ≤ m) (h2 : m ≤ 1000) : zin x m := by
  obtain ⟨h1, h3⟩ := h
  refine ⟨h1, ?_⟩
  rw [i_tl] at h3 ⊢
  have e : ∀ k : Nat, k ≤ 1000 → (Int32.ofNat k).toInt = (k : Int) := fun k hk => by
    rw [Int32.toInt_ofNat_of_lt (by simp [Int32.size]; omega)]
  rw [e n (by omega)] at h3
  rw [e m (by omega)]
  omega
theorem SD.cg {S S' : ZS9} (h : SD S) (hp : ∀ k, S' 1165 k = S 1165 k) (hB : nB S ≤ nB S') (h2 : nB S' ≤ 1000) : SD S' :=
  ⟨fun a => by rw [hp]; exact h.1 a, fun a e => by rw [hp] at e ⊢; exact zin_le (h.2.1 a e) hB h2, fun a => by rw [hp, hp]; exact h.2.2 a⟩
theorem r1165 {S : ZS9} {a j b i : Nat} {x : Int32} (hj : j < 7) (hi : i < 7) : zup S 1165 (7 * a + j) x 1165 (7 * b + i) = if b = a ∧ i = j then x else S 1165 (7 * b + i) := by
  rw [zup_at]
  by_cases h : b = a ∧ i = j
  · rw [if_pos (by omega), if_pos h]
  · rw [if_neg (by omega), if_neg h]
/-- a place that SD does not speak of -/
theorem SD.up {S : ZS9} {a j : Nat} {x : Int32} (h : SD S) (hj : j = 2 ∨ j = 4 ∨ j = 5) : SD (zup S 1165 (7 * a + j) x) := by
  have hn : nB (zup S 1165 (7 * a + j) x) = nB S := nB_up (by omega)
  refine ⟨fun b => ?_, fun b => ?_, fun b => ?_⟩
  · rw [r1165 (by omega) (by omega), if_neg (by omega)]; exact h.1 b
  · rw [r1165 (by omega) (by omega), r1165 (by omega) (by omega), if_neg (by omega), if_neg (by omega), hn]; exact h.2.1 b
  · rw [r1165 (by omega) (by omega), r1165 (by omega) (by omega), if_neg (by omega), if_neg (by omega)]; exact h.2.2 b
theorem SD.st {S : ZS9} {a : Nat} {x : Int32} (h : SD S) (h0 : ¬ x < 0) (h6 : x = 6 → zin (S 1165 (7 * a + 1)) (nB S)) (h7 : x = 7 → ¬ S 1165 (7 * a + 3) < 0 ∧ S 1165 (7 * a + 3) ≤ 1000) : SD (zup S 1165 (7 * a + 0) x) := by
  have hn : nB (zup S 1165 (7 * a + 0) x) = nB S := nB_up (by omega)
  refine ⟨fun b => ?_, fun b => ?_, fun b => ?_⟩
  · rw [r1165 (by omega) (by omega), if_neg (by omega)]; exact h.1 b
  · rw [r1165 (by omega) (by omega), r1165 (by omega) (by omega), if_neg (c := b = a ∧ 1 = 0) (by omega), hn]
    by_cases e : b = a
    · rw [if_pos ⟨e, rfl⟩, e]; exact h6
    · rw [if_neg (fun z => e z.1)]; exact h.2.1 b
  · rw [r1165 (by omega) (by omega), r1165 (by omega) (by omega), if_neg (c := b = a ∧ 3 = 0) (by omega)]
    by_cases e : b = a
    · rw [if_pos ⟨e, rfl⟩, e]; exact ⟨h0, h7⟩
    · rw [if_neg (fun z => e z.1)]; exact h.2.2 b
theorem SD.nv {S : ZS9} {a : Nat} {x : Int32} (h : SD S) (h6 : x ≠ 6) (h7 : x ≠ 7) (h0 : ¬ x < 0) : SD (zup S 1165 (7 * a + 0) x) := h.st h0 (fun z => absurd z h6) (fun z => absurd z h7)
theorem SD.fb {S : ZS9} {a : Nat} (h : SD S) : SD (zup S 1165 (7 * a + 6) 1) := by
  have hn : nB (zup S 1165 (7 * a + 6) 1) = nB S := nB_up (by omega)
  refine ⟨fun b => ?_, fun b => ?_, fun b => ?_⟩
  · rw [r1165 (by omega) (by omega)]
    split
    · exact Or.inr rfl
    · exact h.1 b
  · rw [r1165 (by omega) (by omega), r1165 (by omega) (by omega), if_neg (by omega), if_neg (by omega), hn]; exact h.2.1 b
  · rw [r1165 (by omega) (by omega), r1165 (by omega) (by omega), if_neg (by omega), if_neg (by omega)]; exact h.2.2 b
theorem SD.g3 {S : ZS9} {a : Nat} {x : Int32} (h : SD S) (hx : ¬ x < 0 ∧ x ≤ 1000) : SD (zup S 1165 (7 * a + 3) x) := by
  have hn : nB (zup S 1165 (7 * a + 3) x) = nB S := nB_up (by omega)
  refine ⟨fun b => ?_, fun b => ?_, fun b => ?_⟩
  · rw [r1165 (by omega) (by omega), if_neg (by omega)]; exact h.1 b
  · rw [r1165 (by omega) (by omega), r1165 (by omega) (by omega), if_neg (by omega), if_neg (by omega), hn]; exact h.2.1 b
  · rw [r1165 (by omega) (by omega), r1165 (by omega) (by omega), if_neg (c := b = a ∧ 0 = 3) (by omega)]
    split
    · exact ⟨(h.2.2 b).1, fun _ => hx⟩
    · exact h.2.2 b
theorem SD.b1 {S : ZS9} {a : Nat} {x : Int32} (h : SD S) (hx : zin x (nB S)) : SD (zup S 1165 (7 * a + 1) x) := by
  have hn : nB (zup S 1165 (7 * a + 1) x) = nB S := nB_up (by omega)
  refine ⟨fun b => ?_, fun b => ?_, fun b => ?_⟩
  · rw [r1165 (by omega) (by omega), if_neg (by omega)]; exact h.1 b
  · rw [r1165 (by omega) (by omega), r1165 (by omega) (by omega), if_neg (c := b = a ∧ 0 = 1) (by omega), hn]
    split
    · exact fun _ => hx
    · exact h.2.1 b
  · rw [r1165 (by omega) (by omega), r1165 (by omega) (by omega), if_neg (by omega), if_neg (by omega)]; exact h.2.2 b
theorem SD.ot {S : ZS9} {t k : Nat} {x : Int32} (h : SD S) (hR : nB S ≤ 1000) (ht : t ≠ 1165) (h2 : ¬ (t = 416 ∧ k = 71)) : SD (zup S t k x) :=
  h.cg (fun j => zup_ne (by omega)) (by rw [nB_up h2]; exact Nat.le_refl _) (by rw [nB_up h2]; exact hR)
theorem SD.gets {S : ZS9} {a : Nat} (h : SD S) (hR : RI S) (ht : TD S) : SD (zgets S a) := by
  have h2 : SD (zgets2 S a) := by
    have e : zgets2 S a = zup (zup S 1165 (7 * a + 3) (S 416 1)) 1165 (7 * a + 0) 7 := by
      unfold zgets2; exact zup_cm (by omega)
    rw [e]
    refine (h.g3 ht).st (by decide) (fun z => absurd z (by decide)) (fun _ => ?_)
    rw [zup_s]; exact ht
  have hn : nB (zgets2 S a) = nB S := by unfold zgets2; rw [nB_up (by omega), nB_up (by omega)]
  unfold zgets
  split
  · exact h2
  · refine h2.fb.ot ?_ (by omega) (by omega)
    rw [nB_up (by omega), hn]; have := hR.2.2.1.2; omega
theorem SD.p2 {S : ZS9} {a : Nat} (h : SD S) (hR : RI S) (hb : nB S < 150) : SD (zprint2 S a) ∧ zin (zprint2 S a 1165 (7 * a + 1)) (nB (zprint2 S a)) := by
  have e71 := hR.2.2.1.1
  have hn : nB (zprint2 S a) = nB S + 1 := by
    have e : nB (zprint2 S a) = (S 416 71 + 1).toNatClampNeg := by show (zprint2 S a 416 71).toNatClampNeg = _; rw [nb_p2]
    rw [e, e71, n_p1, n_nn (by omega)]
  have hz : zin (S 416 71) (nB S + 1) := by rw [e71]; exact ⟨n_neg (by omega), (n_lt (by omega) (by omega)).mpr (by omega)⟩
  have e1 : ∀ k, zprint2 S a 1165 k = zup S 1165 (7 * a + 1) (S 416 71) 1165 k := fun k => by
    unfold zprint2
    rw [zup_ne (by omega), zup_ne (by omega)]
    by_cases e : k = 7 * a + 1
    · rw [e, zup_s, zup_s]
    · rw [zup_ne (by omega), zup_ne (by omega), zup_ne (by omega), zup_ne (by omega), zup_ne (by omega), zup_ne (by omega)]
  refine ⟨⟨fun b => ?_, fun b => ?_, fun b => ?_⟩, ?_⟩
  · rw [e1, r1165 (by omega) (by omega), if_neg (by omega)]; exact h.1 b
  · rw [e1, e1, r1165 (by omega) (by omega), r1165 (by omega) (by omega), if_neg (c := b = a ∧ 0 = 1) (by omega), hn]
    split
    · exact fun _ => hz
    · exact fun e => zin_le (h.2.1 b e) (by omega) (by omega)
  · rw [e1, e1, r1165 (by omega) (by omega), r1165 (by omega) (by omega), if_neg (by omega), if_neg (by omega)]; exact h.2.2 b
  · rw [e1, zup_s, hn]; exact hz
theorem SD.prints {S : ZS9} {a : Nat} (h : SD S) (hR : RI S) (ht : TD S) (hb : nB S < 150) : SD (zprints S a) := by
  have enb : nB (zprint1 S a) = nB S := by unfold nB; rw [nb_p1]
  have hR1 : RI (zprint1 S a) := hR.nb zdk.p1 nb_p1
  have e1 : ∀ t k, t ≠ 1169 → zprint1 S a t k = S t k := fun t k hk => by
    unfold zprint1
    split
    · rfl
    · exact zend_no (Or.inl hk)
  have h1 : SD (zprint1 S a) := h.cg (fun k => e1 _ _ (by omega)) (by omega) (by omega)
  have ht1 : TD (zprint1 S a) := by unfold TD; rw [e1 _ _ (by omega)]; exact ht
  unfold zprints
  generalize zprint1 S a = T at *
  obtain ⟨h2, hz⟩ := h1.p2 (a := a) hR1 (by omega)
  have hR2 : RI (zprint2 T a) := by
    refine hR1.k0 zdk.p2.k0 ?_
    have e : nB (zprint2 T a) = (T 416 71 + 1).toNatClampNeg := by show (zprint2 T a 416 71).toNatClampNeg = _; rw [nb_p2]
    rw [e, nb_p2, hR1.2.2.1.1, n_p1, n_nn (by omega)]
    exact ⟨rfl, by omega⟩
  have ht2 : TD (zprint2 T a) := by
    unfold TD zprint2
    rw [zup_ne (by omega), zup_ne (by omega), zup_ne (by omega), zup_ne (by omega), zup_ne (by omega), zup_ne (by omega), zup_ne (by omega)]; exact ht1
  generalize zprint2 T a = U at *
  unfold zprint3
  split
  · refine (h2.up (by omega)).gets (hR2.up (by omega)) ?_
    unfold TD; rw [zup_ne (by omega)]; exact ht2
  · refine (h2.up (by omega)).st (by decide) (fun _ => ?_) (fun z => absurd z (by decide))
    rw [r1165 (by omega) (by omega), if_neg (by omega), nB_up (by omega)]; exact hz
theorem SD.chk {S : ZS9} {a : Nat} (h : SD S) : SD (zchk S a) := by
  refine h.nv ?_ ?_ ?_ <;> unfold zst <;> split
  · decide
  · split
    · decide
    · split <;> decide
  · decide
  · split
    · decide
    · split <;> decide
  · decide
  · split
    · decide
    · split <;> decide
theorem SD.does {S : ZS9} {d a : Nat} (h : SD S) (hR : RI S) (ht : TD S) (hb : d = 3 → zcan S) (hd : d < 4) : SD (zdoes S d a) := by
  match d, hd with
  | 0, _ =>
    show SD (zread S a)
    unfold zread
    refine SD.up (SD.nv (h.up (by omega)) ?_ ?_ ?_) (by omega)
    · split <;> decide
    · split <;> decide
    · split <;> decide
  | 1, _ => exact h.chk
  | 2, _ => exact h.nv (by decide) (by decide) (by decide)
  | 3, _ => exact h.prints hR ht (zcan_nb hR (hb rfl))
theorem TD.does {S : ZS9} {d a : Nat} (ht : TD S) : TD (zdoes S d a) := by
  unfold TD; rw [zdoes_416 (by decide)]; exact ht
theorem SD.srv {d : Nat} (hd : d < 4) : ∀ {L : List Nat} {u : Int32} {S : ZS9}, SD S → RI S → TD S → SD (zsrv d L u S).2
  | [], _, _, h, _, _ => h
  | a :: L, u, S, h, hR, ht => by
    unfold zsrv
    by_cases hc : u < ztakes S d a ∨ (d = 3 ∧ ¬ zcan S)
    · rw [if_pos hc]; exact h
    · rw [if_neg hc]
      have hcan : d = 3 → zcan S := fun e => Classical.byContradiction fun z => hc (Or.inr ⟨e, z⟩)
      exact SD.srv hd (h.does hR ht hcan hd) (hR.does hcan hd) ht.does
theorem TD.works {S : ZS9} {d : Nat} {r : Int32} (ht : TD S) : TD (zworks S d r) := by
  unfold TD zworks zwork1 zwork0
  rw [zup_ne (by omega), zsrv_416 (by decide), zrw_st _ _ (by omega) (by omega)]; exact ht
theorem SD.works {S : ZS9} {d : Nat} {r : Int32} (h : SD S) (hR : RI S) (ht : TD S) (hd : d < 4) : SD (zworks S d r) := by
  have hR0 : RI (zwork0 S d r) := hR.rw _
  have h0 : SD (zwork0 S d r) := by
    have e : nB (zwork0 S d r) = nB S := by unfold zwork0 nB; rw [zrw_st _ _ (by omega) (by omega)]
    have := hR.2.2.1.2
    exact h.cg (fun k => zrw_st _ _ (by omega) (by omega)) (by omega) (by omega)
  have ht0 : TD (zwork0 S d r) := by unfold TD zwork0; rw [zrw_st _ _ (by omega) (by omega)]; exact ht
  unfold zworks
  refine (SD.srv hd h0 hR0 ht0).ot ?_ (by omega) (by omega)
  have : RI (zwork1 S d r).2 := zsrv_RI hd hR0
  exact Nat.le_trans this.2.2.1.2 (by omega)
theorem SD.post {S : ZS9} (h : SD S) (hR : RI S) (ht : TD S) : ∀ {n : Nat}, SD (zpost S n) ∧ RI (zpost S n) ∧ TD (zpost S n)
  | 0 => ⟨h, hR, ht⟩
  | n + 1 => by
    obtain ⟨h1, h2, h3⟩ := SD.post h hR ht (n := n)
    unfold zpost
    split
    · refine ⟨h1.gets h2 h3, h2.nb zdk.gets nb_gets, ?_⟩
      unfold TD; rw [zgets_o (by omega) (by omega)]; exact h3
    · exact ⟨h1, h2, h3⟩
theorem SD.day {S : ZS9} {r : Int32} (h : SD S) (hR : RI S) (ht : TD (zup S 416 1 (S 416 1 + 1))) : SD (zday S r) ∧ TD (zday S r) := by
  have hB := hR.2.2.1.2
  have hR1 : RI (zup S 416 1 (S 416 1 + 1)) := hR.up (by omega)
  have h1 : SD (zup S 416 1 (S 416 1 + 1)) := h.ot (by omega) (by omega) (by omega)
  obtain ⟨h2, hR2, ht2⟩ := h1.post hR1 ht (n := nA S)
  have h3 : SD (zday0 S) := by
    unfold zday0 zcalls
    have b2 := hR2.2.2.1.2
    refine SD.ot (SD.ot (SD.ot h2 (by omega) (by omega) (by omega)) ?_ (by omega) (by omega)) ?_ (by omega) (by omega)
    · rw [nB_up (by omega)]; omega
    · rw [nB_up (by omega), nB_up (by omega)]; omega
  have ht3 : TD (zday0 S) := by
    unfold zday0 zcalls TD
    rw [zup_ne (by omega), zup_ne (by omega), zup_ne (by omega)]; exact ht2
  have g0 := zday0_RI hR
  have g1 := zworks_RI (d := 0) (r := r) (by decide) g0
  have g2 := zworks_RI (d := 1) (r := r) (by decide) g1
  have g3 := zworks_RI (d := 2) (r := r) (by decide) g2
  exact ⟨(((h3.works g0 ht3 (by decide)).works g1 ht3.works (by decide)).works g2 ht3.works.works (by decide)).works g3 ht3.works.works.works (by decide), ht3.works.works.works.works⟩
