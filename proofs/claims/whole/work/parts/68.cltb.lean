/-! who has got his booklet has a day on which he got it, and nobody else -/
def SG (S : ZS9) : Prop := ∀ a, a < nA S → (S 1165 (7 * a + 0) = 7 ↔ ¬ S 1165 (7 * a + 3) < 0)
theorem SG.cg {S S' : ZS9} (h : SG S) (hp : ∀ k, S' 1165 k = S 1165 k) (hA : nA S' = nA S) : SG S' := fun a ha => by
  rw [hp, hp]; exact h a (by omega)
theorem SG.up {S : ZS9} {a j : Nat} {x : Int32} (h : SG S) (hj : j ≠ 0 ∧ j ≠ 3 ∧ j < 7) : SG (zup S 1165 (7 * a + j) x) := fun b hb => by
  have hn : nA (zup S 1165 (7 * a + j) x) = nA S := nA_up (by omega)
  rw [r1165 (by omega) (by omega), r1165 (by omega) (by omega), if_neg (by omega), if_neg (by omega)]
  exact h b (by omega)
/-- one that has none goes on -/
theorem SG.st {S : ZS9} {a : Nat} {x : Int32} (h : SG S) (hx : x ≠ 7) (h7 : S 1165 (7 * a + 0) ≠ 7) : SG (zup S 1165 (7 * a + 0) x) := fun b hb => by
  have hn : nA (zup S 1165 (7 * a + 0) x) = nA S := nA_up (by omega)
  rw [r1165 (by omega) (by omega), r1165 (by omega) (by omega), if_neg (c := b = a ∧ 3 = 0) (by omega)]
  by_cases e : b = a
  · rw [if_pos ⟨e, rfl⟩]
    have := h b (by omega)
    rw [e] at this ⊢
    exact ⟨fun z => absurd z hx, fun z => absurd (this.mpr z) h7⟩
  · rw [if_neg (fun z => e z.1)]; exact h b (by omega)
theorem SG.ot {S : ZS9} {t k : Nat} {x : Int32} (h : SG S) (ht : t ≠ 1165) (h2 : ¬ (t = 416 ∧ k = 66)) : SG (zup S t k x) :=
  h.cg (fun j => zup_ne (by omega)) (nA_up h2)
theorem SG.gets2 {S : ZS9} {a : Nat} (h : SG S) (ht : ¬ S 416 1 < 0) : SG (zgets2 S a) := fun b hb => by
  have hn : nA (zgets2 S a) = nA S := by unfold zgets2; rw [nA_up (by omega), nA_up (by omega)]
  unfold zgets2
  rw [r1165 (by omega) (by omega), r1165 (by omega) (by omega), r1165 (by omega) (by omega), r1165 (by omega) (by omega), if_neg (c := b = a ∧ 0 = 3) (by omega), if_neg (c := b = a ∧ 3 = 0) (by omega)]
  by_cases e : b = a
  · rw [if_pos ⟨e, rfl⟩, if_pos ⟨e, rfl⟩]; exact ⟨fun _ => ht, fun _ => rfl⟩
  · rw [if_neg (fun z => e z.1), if_neg (fun z => e z.1)]; exact h b (by omega)
theorem SG.gets {S : ZS9} {a : Nat} (h : SG S) (ht : ¬ S 416 1 < 0) : SG (zgets S a) := by
  have h2 := h.gets2 (a := a) ht
  unfold zgets
  split
  · exact h2
  · exact (h2.up (by omega)).ot (by omega) (by omega)
theorem SG.prints {S : ZS9} {a : Nat} (h : SG S) (ht : ¬ S 416 1 < 0) (h7 : S 1165 (7 * a + 0) ≠ 7) : SG (zprints S a) := by
  have e1 : ∀ t k, t ≠ 1169 → zprint1 S a t k = S t k := fun t k hk => by
    unfold zprint1
    split
    · rfl
    · exact zend_no (Or.inl hk)
  have h1 : SG (zprint1 S a) := h.cg (fun k => e1 _ _ (by omega)) (by unfold nA; rw [e1 _ _ (by omega)])
  have t1 : ¬ zprint1 S a 416 1 < 0 := by rw [e1 _ _ (by omega)]; exact ht
  have s1 : zprint1 S a 1165 (7 * a + 0) ≠ 7 := by rw [e1 _ _ (by omega)]; exact h7
  unfold zprints
  generalize zprint1 S a = T at *
  have h2 : SG (zprint2 T a) := by
    unfold zprint2
    exact ((((((h1.ot (by omega) (by omega)).ot (by omega) (by omega)).ot (by omega) (by omega)).ot (by omega) (by omega)).up (by omega)).ot (by omega) (by omega)).ot (by omega) (by omega)
  have t2 : ¬ zprint2 T a 416 1 < 0 := by
    unfold zprint2
    rw [zup_ne (by omega), zup_ne (by omega), zup_ne (by omega), zup_ne (by omega), zup_ne (by omega), zup_ne (by omega), zup_ne (by omega)]; exact t1
  have s2 : zprint2 T a 1165 (7 * a + 0) ≠ 7 := by
    unfold zprint2
    rw [zup_ne (by omega), zup_ne (by omega), zup_ne (by omega), zup_ne (by omega), zup_ne (by omega), zup_ne (by omega), zup_ne (by omega)]; exact s1
  generalize zprint2 T a = U at *
  unfold zprint3
  split
  · exact (h2.up (by omega)).gets (by rw [zup_ne (by omega)]; exact t2)
  · refine (h2.up (by omega)).st (by decide) ?_
    rw [r1165 (by omega) (by omega), if_neg (by omega)]; exact s2
theorem SG.chk {S : ZS9} {a : Nat} (h : SG S) (h7 : S 1165 (7 * a + 0) ≠ 7) : SG (zchk S a) := by
  refine h.st ?_ h7
  unfold zst
  split
  · decide
  · split
    · decide
    · split <;> decide
theorem SG.does {S : ZS9} {d a : Nat} (h : SG S) (hd : d < 4) (ht : ¬ S 416 1 < 0) (h7 : S 1165 (7 * a + 0) ≠ 7) : SG (zdoes S d a) := by
  match d, hd with
  | 0, _ =>
    show SG (zread S a)
    unfold zread
    refine SG.up (SG.st (h.up (by omega)) ?_ ?_) (by omega)
    · split <;> decide
    · rw [r1165 (by omega) (by omega), if_neg (by omega)]; exact h7
  | 1, _ => exact h.chk h7
  | 2, _ => exact h.st (by decide) h7
  | 3, _ => exact h.prints ht h7
theorem SG.srv {d : Nat} (hd : d < 4) : ∀ {L : List Nat} {u : Int32} {S : ZS9}, SG S → ¬ S 416 1 < 0 → L.Nodup → (∀ a ∈ L, S 1165 (7 * a + 0) ≠ 7) → SG (zsrv d L u S).2
  | [], _, _, h, _, _, _ => h
  | a :: L, u, S, h, ht, hL, h7 => by
    unfold zsrv
    by_cases hc : u < ztakes S d a ∨ (d = 3 ∧ ¬ zcan S)
    · rw [if_pos hc]; exact h
    · rw [if_neg hc]
      have hn := List.nodup_cons.mp hL
      refine SG.srv hd (h.does hd ht (h7 a List.mem_cons_self)) (by rw [zdoes_416 (by decide)]; exact ht) hn.2 (fun b hb => ?_)
      rw [(zdoes_st (S := S) (a := a) (b := b) hd).1 (fun e => hn.1 (by rw [← e]; exact hb))]
      exact h7 b (List.mem_cons_of_mem _ hb)
theorem SG.works {S : ZS9} {d : Nat} {r : Int32} (h : SG S) (ht : ¬ S 416 1 < 0) (hd : d < 4) : SG (zworks S d r) := by
  have h0 : SG (zwork0 S d r) := h.cg (fun k => zrw_st _ _ (by omega) (by omega)) (nA_dk zdk.rw)
  have ht0 : ¬ zwork0 S d r 416 1 < 0 := by unfold zwork0; rw [zrw_st _ _ (by omega) (by omega)]; exact ht
  have hn : (zline S r (rSt d) (nA S)).Nodup := List.Pairwise.imp (R := zlt S r) (fun {a b} hab (e : a = b) => zlt_irr (S := S) (r := r) (a := b) (by rw [e] at hab; exact hab)) zline_sort
  unfold zworks zwork1
  refine (SG.srv hd h0 ht0 hn (fun a ha => ?_)).ot (by omega) (by omega)
  unfold zwork0
  rw [zrw_st _ _ (by omega) (by omega), (zline_mem.mp ha).2]
  match d, hd with
  | 0, _ => decide
  | 1, _ => decide
  | 2, _ => decide
  | 3, _ => decide
theorem zworks_1 {S : ZS9} {d : Nat} {r : Int32} : zworks S d r 416 1 = S 416 1 := by
  unfold zworks zwork1 zwork0
  rw [zup_ne (by omega), zsrv_416 (by decide), zrw_st _ _ (by omega) (by omega)]
theorem SG.post {S : ZS9} (h : SG S) (ht : ¬ S 416 1 < 0) : ∀ {n : Nat}, SG (zpost S n)
  | 0 => h
  | n + 1 => by
    have h1 := SG.post h ht (n := n)
    have t1 : ¬ zpost S n 416 1 < 0 := by rw [zpost_416 (by decide)]; exact ht
    unfold zpost
    split
    · exact h1.gets t1
    · exact h1
theorem SG.day {S : ZS9} {r : Int32} (h : SG S) (ht : ¬ S 416 1 + 1 < 0) : SG (zday S r) := by
  have h1 : SG (zup S 416 1 (S 416 1 + 1)) := h.ot (by omega) (by omega)
  have t1 : ¬ zup S 416 1 (S 416 1 + 1) 416 1 < 0 := by rw [zup_s]; exact ht
  have h2 := h1.post t1 (n := nA S)
  have t2 : ¬ zpost (zup S 416 1 (S 416 1 + 1)) (nA S) 416 1 < 0 := by rw [zpost_416 (by decide)]; exact t1
  have h3 : SG (zday0 S) := by
    unfold zday0 zcalls
    exact ((h2.ot (by omega) (by omega)).ot (by omega) (by omega)).ot (by omega) (by omega)
  have t3 : ¬ zday0 S 416 1 < 0 := by
    unfold zday0 zcalls
    rw [zup_ne (by omega), zup_ne (by omega), zup_ne (by omega)]; exact t2
  unfold zday
  exact (((h3.works t3 (by decide)).works (by rw [zworks_1]; exact t3) (by decide)).works (by rw [zworks_1, zworks_1]; exact t3) (by decide)).works (by rw [zworks_1, zworks_1, zworks_1]; exact t3) (by decide)
theorem zdays_1 {S : ZS9} {r : Int32} : ∀ {n : Nat}, zdays r n S 416 1 = S 416 1 + Int32.ofNat n
  | 0 => by show S 416 1 = S 416 1 + 0; rw [Int32.add_zero]
  | n + 1 => by
    show zday (zdays r n S) r 416 1 = _
    rw [zday_1, zdays_1, ← n_p1, Int32.add_assoc]
theorem SG.days {S : ZS9} {r : Int32} (h : SG S) {t : Nat} (ht : S 416 1 = Int32.ofNat t) : ∀ {n : Nat}, t + n < 2147483648 → SG (zdays r n S)
  | 0, _ => h
  | n + 1, hn => by
    refine (SG.days h ht (n := n) (by omega)).day ?_
    rw [zdays_1, ht, n_add, n_p1]
    exact n_neg (by omega)
theorem SG.daysT {r : Int32} : ∀ {n : Nat} {S : ZS9}, SG S → TD S → SG (zdaysT r n S)
  | 0, _, h, _ => h
  | n + 1, S, h, ht => by
    unfold zdaysT
    by_cases c : 1000 ≤ S 416 1
    · rw [if_pos c]; exact h
    · rw [if_neg c]
      have hj := i_le1 (y := 0) ht.1 c ht.1
      refine SG.daysT (h.day hj.2.1) ?_
      unfold TD
      rw [zday_1]; exact ⟨hj.2.1, hj.2.2⟩
/-! public methods: missed -/
section ZDb
variable {E : ZE} {l : Launch} {K : ZG} {w m n1 m1 : Nat} {S S' : ZS9} {r : Int32} {X X' : ZG}
theorem OF.sim (h : OF w S r m X) (hs : zsim S S') : OF w S' r m X := by
  have k : ∀ t j, _ → S' t j = S t j := fun t j hc => hs t j (sim_no hc)
  obtain ⟨o1, o2, o3, o4, o5, o6, o7, o8⟩ := h
  exact ⟨o1, o2.cg (fun t j hc => k t j (by omega)), o3.cg (fun t j hc => k t j (by omega)), o4.cg (k _ _ (by omega)) (fun t j hc => k t j (by omega)), o5.cg (k _ _ (by omega)) (fun t j hc => k t j (by omega)), o6.cg (fun j hc => k _ j (by omega)), o7, o8.cg (fun t j hc => k t j (by unfold oc at hc; omega))⟩
/-- the rule by which an office goes -/
theorem OF.rule {x : Int32} (h : OF w S r m X) : OF w S x m (zsi X (zp (224 + w) 0) 7 x) := by
  have hw := h.w2
  obtain ⟨⟨c1, c2, c3, c4, c5, c6, c7⟩, ⟨a1, a2, a3⟩, ⟨b1, b2, b3, b4, b5⟩⟩ := h.so
  have hf2 : zfr [224 + w] X (zsi X (zp (224 + w) 0) 7 x) := zfr.si (by rw [zp_mod (by omega)]; simp)
  have no : ∀ t, t ≠ 224 + w → t ∉ [224 + w] := fun t h => by simp [h]
  have hfw : zfr (TW w) X (zsi X (zp (224 + w) 0) 7 x) := fsi (by omega) TWo
  obtain ⟨o1, o2, o3, o4, o5, o6, o7, -⟩ := h
  refine ⟨o1, o2, o3, o4.fr hfw (TWn (by omega)) (TWn (by omega)) (TWn (by omega)) (TWn (by omega)) (TWn (by omega)) (TWn (by omega)) (TWn (by omega)), o5.fr hfw (TWn (by omega)) (TWn (by omega)) (TWn (by omega)) (TWn (by omega)) (TWn (by omega)) (TWn (by omega)), o6.fr hfw (TWn (by omega)), o7.fr hfw (TWn (by omega)), ?_⟩
  refine ⟨⟨c1, c2, c3, c4, c5, c6, fun k h1 h2 => ?_⟩, ⟨a1.fr hf2 (by omega) (no _ (by omega)) (no _ (by omega)) (no _ (by omega)), a2, fun a ha => ?_⟩, ⟨b1.fr hf2 (by omega) (no _ (by omega)) (no _ (by omega)) (no _ (by omega)), b2, b3, b4, fun b hb k hk => ?_⟩⟩
  · rw [ziv_si]
    by_cases c : k = 7
    · rw [if_pos ⟨rfl, c⟩, c]; rfl
    · rw [if_neg (fun z => c z.2), c7 k h1 h2]
      unfold oFld
      rw [if_neg c, if_neg c]
  · exact AOK.st (X' := zsi X (zp (224 + w) 0) 7 x) (a3 a ha) (Nat.le_refl _) ⟨rfl, hf2.iv (t := 32 + w) (by omega) (no _ (by omega))⟩ (fun v' _ => hf2.iv (t := 352) (by omega) (no _ (by omega)))
  · rw [iv_n (zp_ne (by omega) (by omega) (by omega))]; exact b5 b hb k hk
/-- only the trial has changed -/
theorem PO.tr {n2 m2 : Nat} (h : PO K S m n1 m1 X) (hf : zfr TT X X') (hT : TR S n2 m2 X') : PO K S m n2 m2 X' := by
  obtain ⟨p1, p2, p3, p4, p5, p6, p7, p8⟩ := h
  exact ⟨p1.fr hf (TTn (by omega)), p2.fr hf (TTn (by omega)) (TTn (by omega)), p3.fr hf (TTn (by omega)) (TTn (by omega)) (TTn (by omega)) (TTn (by omega)) (TTn (by omega)), p4.fr hf (TTn (by omega)) (TTn (by omega)) (TTn (by omega)), p5.fr hf (TTn (by omega)) (TTn (by omega)) (by decide), p6.tt hf, hT, p8⟩
/-- the trial's rows, when it is an office -/
theorem OF.tr {T : ZS9} (h : OF 1 T r m X) (hk : ∀ t k, (1153 ≤ t ∧ t ≤ 1156) ∨ t = 2158 ∨ (1159 ≤ t ∧ t ≤ 1164) ∨ t = 2163 ∨ (t = 416 ∧ k = 66) → T t k = S t k) : TR S (nA S) m X := by
  have hA : nA T = nA S := by unfold nA; rw [hk _ _ (by omega)]
  obtain ⟨⟨o1, o2, o3, o4, o5, o6, o7⟩, ⟨a1, a2, a3⟩, ⟨b1, b2, b3, b4, b5⟩⟩ := h.so
  rw [hA] at a1 a2 a3
  refine ⟨⟨o1, o2, o3, o4, o5, o6⟩, ⟨a1, a2, Nat.le_refl _, fun a ha => ?_⟩, b1, b2, b4⟩
  obtain ⟨p1, ⟨v, v1, v2, v3⟩, p3⟩ := a3 a ha
  refine ⟨by unfold pn at p1; rw [hk _ _ (by omega)] at p1; exact p1, ⟨v, v1, v2, ?_⟩, fun k k1 k2 => ?_⟩
  · unfold VD at *
    rw [hk 1159 _ (by omega), hk 1160 _ (by omega), hk 1162 _ (by omega), hk 1164 _ (by omega), hk 2163 _ (by omega), hk 1161 _ (by omega)] at v3
    exact v3
  · have := p3 k (by omega) k2 (by omega)
    rw [show zp 33 a = zp (32 + 1) a from rfl, this]
    match k, k1, k2 with
    | 0, _, _ => rfl
    | 2, _, _ => exact hk 1154 _ (by omega)
    | 3, _, _ => exact hk 1155 _ (by omega)
    | 4, _, _ => exact hk 1156 _ (by omega)
    | 5, _, _ => exact hk 2158 _ (by omega)
theorem zkeep_o {t k : Nat} (h : t ≠ 1179 ∧ t ≠ 1180) : zkeep S t k = S t k := by
  unfold zkeep; rw [if_neg (by omega), if_neg (by omega)]
theorem zkeep_sim : zsim S (zkeep (zs S)) := fun t k hc => by
  rw [zkeep_o (by unfold zscr at hc; omega)]
  exact zs0 zsim.rf t k hc
theorem p_missed0 (htr : l.stackTraces = false) (h : PO K S m n1 m1 X) (x n : Int32) (hg : ¬ (inn x 0 2 ∧ inn n 0 60)) : zMet E l mX11_missed 13 7 [.ref (zp 384 0), .int x, .int n] X (cO cy (fun _ => xIA) (fMissed S x n) (fun S' G' => PO K S' m n1 m1 G')) := by
  have ef : fMissed S x n = (1, 0, S) := by unfold fMissed; rw [f3t hg]
  rw [ef]
  have bad : ∀ {k : Nat} {K9 : ZG → Nat → Prop}, 7 ≤ k → xcV E l mX11_demand 13 [.int 0] X k (fun Y G9 => cO cy (fun _ => xIA) (1, 0, S) (fun S' G' => PO K S' m n1 m1 G') (.inr Y) G9) K9 := fun hk => xcV_th (c_demand0 htr) (by decide) hk (cO_ex (by decide) rfl h)
  refine z_meth (by decide) (Nat.le_of_ble_eq_true rfl) (by simp [Value.category]) (wpt_X11_missed_0 ?_); unfold wp_X11_missed_0
  refine cI (c_isOrder x) (by decide) ⟨fun _ => bad (by decide), fun c => ⟨fun _ => bad (by decide), fun c2 => ⟨fun _ => bad (by decide), fun c3 => ?_⟩⟩⟩
  exact absurd ⟨Classical.not_not.mp (fun z => c (zbz z)), c2, c3⟩ hg
theorem p_missed1 (htr : l.stackTraces = false) (h : PO K S m n1 m1 X) (hG : SG S) {x : Int32} {n : Nat} (hx : inn x 0 2) (hn : n ≤ 60) : zMet E l mX11_missed 13 (300 * (nA S - n1) + 320 * (max m1 (nB (zmiss S x n)) - m1)) [.ref (zp 384 0), .int x, .int (Int32.ofNat n)] X (cO cy (fun _ => xIA) (fMissed S x (Int32.ofNat n)) (fun S' G' => PO K S' m (nA S) (max m1 (nB (zmiss S x n))) G')) := by
  have hA := h.of.nA2
  have hr := inn_012 hx
  have hgood : inn (Int32.ofNat n) 0 60 := ⟨n_neg (by omega), by rw [show (60 : Int32) = Int32.ofNat 60 from rfl, n_lt (by omega) (by omega)]; omega⟩
  have ef : fMissed S x (Int32.ofNat n) = (0, zmissed S x n, S) := by unfold fMissed; rw [f3f (nn ⟨hx, hgood⟩), n_nn (by omega)]
  rw [ef]
  obtain ⟨t, ht, et⟩ := n_of h.si.2.2.2.1.1
  have ht2 : t ≤ 1000 := by
    have := h.si.2.2.2.1.2
    rw [et, show (1000 : Int32) = Int32.ofNat 1000 from rfl, n_le (by omega) (by omega)] at this
    exact this
  -- the numbers that the trial begins with
  have h0A : nA (zkeep (zs S)) = nA S := by unfold nA; rw [zkeep_sim _ _ (by unfold zscr; omega)]
  have h0B : nB (zkeep (zs S)) = nB S := by unfold nB; rw [zkeep_sim _ _ (by unfold zscr; omega)]
  have h0t : zkeep (zs S) 416 1 = Int32.ofNat t := by rw [zkeep_sim _ _ (by unfold zscr; omega), et]
  have h0G : SG (zkeep (zs S)) := hG.cg (fun k => zkeep_sim _ _ (by unfold zscr; omega)) h0A
  have h0R : RI (zkeep (zs S)) := h.of.ri.cg (fun t k hc => zkeep_sim _ _ (by unfold zscr; omega))
  have hdk : ∀ j t k, (1153 ≤ t ∧ t ≤ 1156) ∨ t = 2158 ∨ (1159 ≤ t ∧ t ≤ 1164) ∨ t = 2163 ∨ (t = 416 ∧ k = 66) → zdays x j (zkeep (zs S)) t k = S t k := fun j t k hc => by
    rw [zdays_dk _ _ (by unfold zdc; omega), zkeep_sim _ _ (by unfold zscr; omega)]
  have hmono : ∀ i j, i ≤ j → nB (zdays x i (zkeep (zs S))) ≤ nB (zdays x j (zkeep (zs S))) := by
    intro i j hij
    induction j with
    | zero => rw [show i = 0 by omega]; exact Nat.le_refl _
    | succ j ih =>
      by_cases e : i = j + 1
      · rw [e]; exact Nat.le_refl _
      · exact Nat.le_trans (ih (by omega)) (zday_mn (r := x) (zdays_RI h0R)).2.2.1
  have eM : zmiss S x n = zdays x n (zkeep (zs S)) := rfl
  have hb0 : nB S ≤ nB (zdays x n (zkeep (zs S))) := by rw [← h0B]; exact hmono 0 n (by omega)
  have hgot : ∀ a, a < nA S → (zmsd S (zdays x n (zkeep (zs S))) a ↔ ¬ 6 < S 1165 (7 * a + 0) ∧ ¬ S 416 1 + Int32.ofNat n < S 1156 a ∧ ¬ (zdays x n (zkeep (zs S)) 1165 (7 * a + 0) = 7 ∧ ¬ S 1156 a < zdays x n (zkeep (zs S)) 1165 (7 * a + 3))) := by
    intro a ha
    have hG1 := (h0G.days (r := x) h0t (n := n) (by omega)) a (by unfold nA; rw [hdk _ _ _ (by omega)]; exact ha)
    unfold zmsd
    rw [zdays_1, h0t, ← et, hG1]
    refine and_congr_right fun _ => and_congr i_nlt.symm ?_
    constructor
    · rintro (z | z) ⟨y1, y2⟩
      · exact y1 z
      · exact y2 z
    · intro z
      by_cases c : zdays x n (zkeep (zs S)) 1165 (7 * a + 3) < 0
      · exact Or.inl c
      · exact Or.inr (Classical.byContradiction fun y => z ⟨c, y⟩)
  generalize hM : max m1 (nB (zmiss S x n)) = M
  rw [eM] at hM
  generalize hQ : cO cy (fun _ => xIA) (0, zmissed S x n, S) (fun S' G' => PO K S' m (nA S) M G') = Q
  generalize hB : 300 * (nA S - n1) + 320 * (M - m1) = B
  have o384 : ∀ {Y}, zfr TT X Y → zob Y (zp 384 0) 12 := fun hf => hf.ob h.o.1
  have r78 : ∀ {Y}, zfr TT X Y → zrv Y (zp 384 0) 8 = zp 224 0 ∧ zrv Y (zp 384 0) 9 = zp 225 0 := fun hf => by
    rw [hf.rv (by omega) (TTn (by omega))]; exact ⟨h.o.2.2.2.2.2.2.1, h.o.2.2.2.2.2.2.2.1⟩
  -- the count
  have count : ∀ X1, OF 1 (zdays x n (zkeep (zs S))) x M X1 → zfr TT X X1 → ∀ i, i ≤ nA S → ∀ k, zW E l mX11_missed 13 B X Q k 69 [some (.ref (zp 384 0)), none, some (.int (Int32.ofNat n)), some (.int (zcnt (zmsd S (zdays x n (zkeep (zs S)))) i)), some (.int (Int32.ofNat i)), none, none] [] X1 := by
    intro X1 h1 f1
    have hO := h.of.tt f1
    obtain ⟨r7, r8⟩ := r78 f1
    have l0 := hO.aL
    have l1 := h1.aL
    have n1e : nA (zdays x n (zkeep (zs S))) = nA S := by unfold nA; rw [hdk _ _ _ (by omega)]
    have g3 : zrv X1 (zp 225 0) 3 = zp 6 0 := h1.r3
    have g0 : zrv X1 (zp 224 0) 3 = zp 4 0 := hO.r3
    refine zdown (fun k => ?_) (fun i hi ih k => ?_)
    · refine wpt_X11_missed_69 ?_; unfold wp_X11_missed_69
      rw [r7, g0]
      refine ⟨o384 f1, hO.oo, zobL l0 (by omega), csize l0 (by omega) (by decide) (it (by rw [n_le (by omega) (by omega)]; omega) ?_)⟩
      rw [← hQ]
      refine cO_ok rfl (h.tr f1 ?_)
      exact OF.tr h1 (hdk n)
    · have ih := ih k
      have e148 : ∀ s0, (s0 = 0 ∧ ¬ (¬ 6 < S 1165 (7 * i + 0) ∧ ¬ S 416 1 + Int32.ofNat n < S 1156 i)) ∨ (s0 = 1 ∧ ¬ 6 < S 1165 (7 * i + 0) ∧ ¬ S 416 1 + Int32.ofNat n < S 1156 i) → zW E l mX11_missed 13 B X Q k 148 [some (.ref (zp 384 0)), none, some (.int (Int32.ofNat n)), some (.int (zcnt (zmsd S (zdays x n (zkeep (zs S)))) i)), some (.int (Int32.ofNat i)), none, none] [.int s0] X1 := by
        intro s0 hs
        refine wpt_X11_missed_148 ?_; unfold wp_X11_missed_148
        rw [r8, g3, n_p1]
        rcases hs with ⟨rfl, c⟩ | ⟨rfl, c⟩
        · refine it rfl ?_
          rw [zcnt_f (fun z => c ⟨((hgot i hi).mp z).1, ((hgot i hi).mp z).2.1⟩)] at ih
          exact ih
        · refine ie (by decide) ⟨o384 f1, h1.oo, zobL l1 (by omega), cget l1 (by omega) (by omega) (by omega) (by decide) ?_⟩
          have cg := c_gotInTime (E := E) (l := l) h1.so (by decide) (a := i) (by omega)
          rw [hdk n 1156 i (by omega)] at cg
          refine ⟨h1.ob (by omega), h1.ob (by omega), cI cg (by decide) ⟨fun c2 => ?_, fun c2 => ?_⟩⟩
          · have c2 := Classical.not_not.mp (fun z => c2 (zbz z))
            rw [zcnt_f (fun z => ((hgot i hi).mp z).2.2 c2)] at ih
            exact ih
          · have c2 := zb_0.mp (Classical.not_not.mp c2)
            rw [zcnt_t ((hgot i hi).mpr ⟨c.1, c.2, c2⟩)] at ih
            exact ih
      refine wpt_X11_missed_69 ?_; unfold wp_X11_missed_69
      rw [r7, g0]
      refine ⟨o384 f1, hO.oo, zobL l0 (by omega), csize l0 (by omega) (by decide) (ie (by rw [n_le (by omega) (by omega)]; omega) ?_)⟩
      rw [r8, g3]
      refine ⟨o384 f1, h1.oo, zobL l1 (by omega), csize l1 (by omega) (by decide) (ie (by rw [n_le (by omega) (by omega)]; omega) ?_)⟩
      rw [r7, g0]
      refine ⟨o384 f1, hO.oo, zobL l0 (by omega), ?_⟩
      refine cget l0 (by omega) (by omega) hi (by decide) ⟨hO.ob hi, hO.ob hi, ?_⟩
      rw [r7, show ziv X1 (zp 32 i) 7 = S 1165 (7 * i + 0) from hO.a7 hi, show ziv X1 (zp 32 i) 4 = S 1156 i from hO.a4 hi, show ziv X1 (zp 224 0) 6 = S 416 1 from hO.f6]
      exact ⟨fun c => e148 0 (Or.inl ⟨rfl, fun z => z.1 c⟩), fun c => ⟨hO.ob hi, o384 f1, hO.oo, fun c2 => e148 0 (Or.inl ⟨rfl, fun z => z.2 c2⟩), fun c2 => e148 1 (Or.inr ⟨rfl, c, c2⟩)⟩⟩
  -- the days
  have days : ∀ i, i ≤ n → ∀ X1 m2 k, OF 1 (zdays x i (zkeep (zs S))) x m2 X1 → zfr TT X X1 → m2 = max m1 (nB (zdays x i (zkeep (zs S)))) → 320 * (M - m2) ≤ k → zW E l mX11_missed 13 B X Q k 46 [some (.ref (zp 384 0)), none, some (.int (Int32.ofNat n)), some (.int (Int32.ofNat i)), none, none, none] [] X1 := by
    refine zdown (fun X1 m2 k h1 f1 e2 hk => ?_) (fun i hi ih X1 m2 k h1 f1 e2 hk => ?_)
    · refine wpt_X11_missed_46 ?_; unfold wp_X11_missed_46
      refine it (by rw [n_le (by omega) (by omega)]; omega) ?_
      exact count X1 (by rw [← hM, ← e2]; exact h1) f1 0 (by omega) _
    · obtain ⟨r7, r8⟩ := r78 f1
      have hj : ¬ zdays x i (zkeep (zs S)) 416 1 + 1 < 0 := by
        rw [zdays_1, h0t, n_add, n_p1]; exact n_neg (by omega)
      have cp := c_passDay (E := E) (l := l) h1 hr hj
      have m3 := hmono i (i + 1) (by omega)
      have m4 := hmono (i + 1) n (by omega)
      have ez : zday (zdays x i (zkeep (zs S))) x = zdays x (i + 1) (zkeep (zs S)) := rfl
      rw [ez] at cp
      refine wpt_X11_missed_46 ?_; unfold wp_X11_missed_46
      rw [r8, n_p1]
      refine ie (by rw [n_le (by omega) (by omega)]; omega) ⟨o384 f1, h1.oo, cVx cp (by decide) (by omega) (fun G2 h2 => ?_)⟩
      refine ih G2 (max m2 (nB (zdays x (i + 1) (zkeep (zs S))))) _ h2.1 (f1.trans (h2.2.mono (by intro t ht; unfold TW at ht; unfold TT; simp at ht ⊢; omega))) (by omega) (by omega)
  have hcf := c_copyFrom (E := E) (l := l) h.of h.si.2.2.1.1 h.2.2.2.2.2.2.1
  obtain ⟨q7, q8⟩ := r78 zfr.rf
  refine z_meth (by decide) (Nat.le_of_ble_eq_true rfl) (by simp [Value.category]) (wpt_X11_missed_0 ?_); unfold wp_X11_missed_0
  refine cI (c_isOrder x) (by decide) (ie (by rw [zb_t hx]; decide) (ie hgood.1 (ie hgood.2 (cV (c_demand1 htr) (by decide) ?_))))
  rw [q7, q8]
  refine ⟨h.o.1, h.o.1, h.2.2.2.2.2.2.1.1.1, cVx hcf (by decide) (by omega) (fun G21 h21 => ?_)⟩
  obtain ⟨c1, c2, c3⟩ := h21
  obtain ⟨s7, s8⟩ := r78 c3
  rw [s8]
  refine ⟨o384 c3, c1.oo, fun G23 e23 => days 0 (by omega) G23 (max m1 (nB S)) _ ?_ ?_ ?_ (by omega)⟩
  · rw [e23]; exact (c1.rule (x := x)).sim zkeep_sim
  · rw [e23]; exact c3.trans (zfr.si (by rw [zp_mod (by omega)]; unfold TT; simp))
  · show max m1 (nB S) = max m1 (nB (zkeep (zs S)))
    rw [h0B]
end ZDb
