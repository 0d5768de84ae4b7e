/-! public methods: lend, tell -/
section ZCx
variable {E : ZE} {l : Launch} {K : ZG} {w m n1 m1 : Nat} {S S' : ZS9} {r : Int32} {X X' : ZG}
/-- an office, when people or desks have changed -/
theorem OF.mk2 {T : List Nat} (h : OF 0 S r m X) (hf : zfr T X X') (hT : ∀ t, t = 224 ∨ t = 32 ∨ t = 4 ∨ t = 3076 ∨ t = 5 ∨ t = 3077 ∨ t = 64 ∨ t = 352 ∨ t = 320 ∨ t = 3602 ∨ t = 4095 → t ∉ T) (hRI : RI S') (hRJ : RJ S') (hCP : CP S' X') (hCD : CD S' X') (hS : ∀ t k, oc t k ∨ (t = 416 ∧ ((37 ≤ k ∧ k ≤ 41) ∨ k = 44 ∨ k = 45)) → S' t k = S t k) : OF 0 S' r m X' := by
  obtain ⟨o1, o2, o3, o4, o5, o6, o7, o8⟩ := h
  have hl := o8.2.2
  refine ⟨o1, hRI, hRJ, hCP, hCD, (o6.cg (fun i hc => hS _ i (Or.inr ⟨rfl, hc⟩))).fr hf (hT _ (by omega)), o7.fr hf (hT _ (by omega)), ?_⟩
  exact (o8.fr o1 hf (hT _ (by omega)) (hT _ (by omega)) (hT _ (by omega)) (hT _ (by omega)) (hT _ (by omega)) (hT _ (by omega)) ⟨hl.1.fr hf (by omega) (hT _ (by omega)) (hT _ (by omega)) (hT _ (by omega)), by rw [hf.2.1 _ (hT _ (by omega))]; exact hl.2.1, hl.2.2.2.1⟩ (Nat.le_refl _) (fun b _ i _ => by rw [hf.iv (by omega) (hT _ (by omega))])).cg (fun t i hc => hS t i (Or.inl hc))
theorem c_initT {q : Nat} {a b c d e : Int32} (ho : zob X q 5) : zMet E l mX4_init 1 0 [.ref q, .int a, .int b, .int c, .int d, .int e] X (zVx (fun X' => zIn X X' q ∧ ziv X' q 0 = a ∧ ziv X' q 1 = b ∧ ziv X' q 2 = c ∧ ziv X' q 3 = d ∧ ziv X' q 4 = e)) := by
  refine z_meth (by decide) (Nat.le_of_ble_eq_true rfl) (by simp [Value.category]) (wpt_X4_init_0 ?_); unfold wp_X4_init_0
  refine ⟨ho.1, by decide, ho, fun G1 e1 => ?_⟩
  have i1 : zIn X G1 q := by rw [e1]; exact zIn.rf.si
  refine ⟨i1.ob ho, fun G2 e2 => ?_⟩
  have i2 : zIn X G2 q := by rw [e2]; exact i1.si
  refine ⟨i2.ob ho, fun G3 e3 => ?_⟩
  have i3 : zIn X G3 q := by rw [e3]; exact i2.si
  refine ⟨i3.ob ho, fun G4 e4 => ?_⟩
  have i4 : zIn X G4 q := by rw [e4]; exact i3.si
  refine ⟨i4.ob ho, fun G5 e5 => ⟨rfl, by rw [e5]; exact i4.si, ?_, ?_, ?_, ?_, ?_⟩⟩
  · rw [e5, iv_k (by decide), e4, iv_k (by decide), e3, iv_k (by decide), e2, iv_k (by decide), e1, iv_s]
  · rw [e5, iv_k (by decide), e4, iv_k (by decide), e3, iv_k (by decide), e2, iv_s]
  · rw [e5, iv_k (by decide), e4, iv_k (by decide), e3, iv_s]
  · rw [e5, iv_k (by decide), e4, iv_s]
  · rw [e5, iv_s]
theorem zlend_o {d n f t tr : Int32} {u k : Nat} (h : ¬ (1147 ≤ u ∧ u ≤ 1151 ∧ k = nT S)) (h2 : ¬ (u = 416 ∧ k = 52)) : zlend S d n f t tr u k = S u k := by
  unfold zlend
  rw [zup_ne (by omega), zup_ne (by omega), zup_ne (by omega), zup_ne (by omega), zup_ne (by omega), zup_ne (by omega)]
theorem zlend_n {d n f t tr : Int32} : zlend S d n f t tr 1147 (nT S) = d ∧ zlend S d n f t tr 1148 (nT S) = n ∧ zlend S d n f t tr 1149 (nT S) = f ∧ zlend S d n f t tr 1150 (nT S) = t ∧ zlend S d n f t tr 1151 (nT S) = tr ∧ zlend S d n f t tr 416 52 = S 416 52 + 1 := by
  unfold zlend
  refine ⟨?_, ?_, ?_, ?_, ?_, zup_s _ _ _ _⟩
  · rw [zup_ne (by omega), zup_ne (by omega), zup_ne (by omega), zup_ne (by omega), zup_ne (by omega), zup_s]
  · rw [zup_ne (by omega), zup_ne (by omega), zup_ne (by omega), zup_ne (by omega), zup_s]
  · rw [zup_ne (by omega), zup_ne (by omega), zup_ne (by omega), zup_s]
  · rw [zup_ne (by omega), zup_ne (by omega), zup_s]
  · rw [zup_ne (by omega), zup_s]
/-- a list's things, one more -/
theorem zif_n {t n : Nat} : (fun j => if j = n then zp t n else zp t j) = zp t := by
  funext j
  split
  · next e => rw [e]
  · rfl
theorem PO.lent {d n f t tr : Int32} (h : PO K S m n1 m1 X) (hn : nT S < 20) (hf : zfr [160, 3, 3075] X X') (hl : zAL X' 3 (nT S + 1) (zp 160)) (hc : zcn X' 160 = nT S + 1) (ho : ∀ k, k < nT S → ziv X' (zp 160 k) = ziv X (zp 160 k)) (hr : ziv X' (zp 160 (nT S)) 0 = d ∧ ziv X' (zp 160 (nT S)) 1 = n ∧ ziv X' (zp 160 (nT S)) 2 = f ∧ ziv X' (zp 160 (nT S)) 3 = t ∧ ziv X' (zp 160 (nT S)) 4 = tr) : PO K (zlend S d n f t tr) m n1 m1 X' := by
  have no : ∀ t, t ≠ 160 → t ≠ 3 → t ≠ 3075 → t ∉ [160, 3, 3075] := fun t h1 h2 h3 => by simp [h1, h2, h3]
  obtain ⟨l1, l2, l3, l4, l5, l6⟩ := zlend_n (S := S) (d := d) (n := n) (f := f) (t := t) (tr := tr)
  have ks : ∀ u k, ¬ (1147 ≤ u ∧ u ≤ 1151) → ¬ (u = 416 ∧ k = 52) → zlend S d n f t tr u k = S u k := fun u k h1 h2 => zlend_o (by omega) h2
  have hT := h.of.ri.2.2.2.1
  have e52 : zlend S d n f t tr 416 52 = Int32.ofNat (nT S + 1) := by rw [l6, hT.1, n_p1]
  have eT : nT (zlend S d n f t tr) = nT S + 1 := by
    show (zlend S d n f t tr 416 52).toNatClampNeg = _
    rw [e52, n_nn (by omega)]
  have e42 : zlend S d n f t tr 416 42 = S 416 42 := ks _ _ (by omega) (by omega)
  refine h.gen hf (fun t ht => no t (by unfold PT at ht; simp at ht; omega) (by unfold PT at ht; simp at ht; omega) (by unfold PT at ht; simp at ht; omega)) (by decide) ?_ (fun t i hc => ks t i (by unfold pk tk at hc; omega) (by unfold pk tk at hc; omega)) (h.si.cg (fun t i hc => ks t i (by unfold sc at hc; omega) (by unfold sc at hc; omega)) (by rw [e42]; exact h.or) (Nat.le_trans h.of.ri.2.2.1.2 (by omega)))
  rw [e42]
  have o := h.of
  refine o.mk2 hf (fun t ht => no t (by omega) (by omega) (by omega)) ?_ (o.rj.cg (fun t i hc => ks t i (by omega) (by omega))) ((o.cp.cg (ks _ _ (by omega) (by omega)) (fun t i hc => ks t i (by omega) (by omega))).fr hf (no _ (by omega) (by omega) (by omega)) (no _ (by omega) (by omega) (by omega)) (no _ (by omega) (by omega) (by omega)) (no _ (by omega) (by omega) (by omega)) (no _ (by omega) (by omega) (by omega)) (no _ (by omega) (by omega) (by omega)) (no _ (by omega) (by omega) (by omega))) ?_ (fun t i hc => ks t i (by unfold oc at hc; omega) (by unfold oc at hc; omega))
  · obtain ⟨a, b, c, d', e, g⟩ := o.ri
    unfold RI nA nP nB pn at *
    rw [ks 416 66 (by omega) (by omega), ks 416 34 (by omega) (by omega), ks 416 71 (by omega) (by omega), eT, e52]
    exact ⟨a, b, c, ⟨rfl, by omega⟩, fun x hx => by rw [ks 1153 _ (by omega) (by omega)]; exact e x hx, fun x => by rw [ks 2158 _ (by omega) (by omega)]; exact g x⟩
  · obtain ⟨c1, c2, c3, ⟨c4, c5, c6⟩, c7, c8, c9⟩ := o.cd
    unfold CD
    rw [eT]
    refine ⟨hf.ob c1, by rw [hf.rv (by omega) (no _ (by omega) (by omega) (by omega))]; exact c2, by rw [hf.rv (by omega) (no _ (by omega) (by omega) (by omega))]; exact c3, ⟨hf.ar c4, by rw [hf.ln (by omega) (no _ (by omega) (by omega) (by omega))]; exact c5, fun d2 hd2 => ?_⟩, hl, hc, fun k hk => ?_⟩
    · rw [hf.iv (by omega) (no _ (by omega) (by omega) (by omega)), ks _ _ (by omega) (by omega)]; exact c6 d2 hd2
    · by_cases e : k = nT S
      · unfold LR
        rw [e, l1, l2, l3, l4, l5]; exact hr
      · have := c9 k (by omega)
        unfold LR at *
        rw [ho k (by omega), zlend_o (by omega) (by omega), zlend_o (by omega) (by omega), zlend_o (by omega) (by omega), zlend_o (by omega) (by omega), zlend_o (by omega) (by omega)]
        exact this
theorem p_lend (htr : l.stackTraces = false) (h : PO K S m n1 m1 X) (x n f t tr : Int32) : zMet E l mX11_lend 9 70 [.ref (zp 384 0), .int x, .int n, .int f, .int t, .int tr] X (cO cy (xs xIO xIA xIA) (fLend S x n f t tr) (fun S' G' => PO K S' m n1 m1 G')) := by
  have hT := h.of.ri.2.2.2.1
  have q5 := h.o.2.2.2.2.1
  have q7 := h.o.2.2.2.2.2.2.1
  have cd := h.of.cd
  have hl := cd.2.2.2.2.1
  have hc := cd.2.2.2.2.2.1
  generalize hQ : cO cy (xs xIO xIA xIA) (fLend S x n f t tr) (fun S' G' => PO K S' m n1 m1 G') = Q
  by_cases hx : inn x 0 3
  · have bad : ∀ {k : Nat} {K : ZG → Nat → Prop}, 7 ≤ k → ¬ (inn n 1 30 ∧ ¬ f < S 416 1 ∧ ¬ t < f ∧ ¬ 1000 < t ∧ inn tr 0 30) → xcV E l mX11_demand 9 [.int 0] X k (fun X G9 => Q (.inr X) G9) K := fun hk hc => xcV_th (c_demand0 htr) (by decide) hk (by rw [← hQ]; unfold fLend; rw [f3f (nn hx), f3t hc]; exact cO_ex (by decide) rfl h)
    have e73 : ∀ s0, (s0 = 1 ∧ (inn n 1 30 ∧ ¬ f < S 416 1 ∧ ¬ t < f ∧ ¬ 1000 < t ∧ inn tr 0 30)) ∨ (s0 = 0 ∧ ¬ (inn n 1 30 ∧ ¬ f < S 416 1 ∧ ¬ t < f ∧ ¬ 1000 < t ∧ inn tr 0 30)) → zW E l mX11_lend 9 70 X Q 70 73 [some (.ref (zp 384 0)), some (.int x), some (.int n), some (.int f), some (.int t), some (.int tr)] [.int s0] X := by
      intro s0 hs
      refine wpt_X11_lend_73 ?_; unfold wp_X11_lend_73
      rcases hs with ⟨rfl, hg⟩ | ⟨rfl, hg⟩
      · refine cV (c_demand1 htr) (by decide) ?_
        rw [q5, cd.2.1]
        refine ⟨h.o.1, cd.1, zobL hl (by omega), csize hl (by omega) (by decide) ⟨fun c => ⟨h.o.1, by rw [q5]; exact cd.1, by decide, 160, by decide, by decide, by decide, fun q e7 G8 e8 k9 e9 => ?_⟩, fun c => ?_⟩⟩
        · rw [show (20 : Int32) = Int32.ofNat 20 from rfl, n_lt (by omega) (by omega)] at c
          rw [hc] at e7
          have f8 : zfr [160] X G8 := by rw [e8]; exact zfr.nw (by omega) (by simp)
          have n1f : ∀ t, t ≠ 160 → t ∉ [160] := fun t h => by simp [h]
          have al8 : zal G8 q := by rw [e8, e7]; exact (zal_nw (by omega) _).mpr (Or.inr (by rw [hc]))
          have o8 : zob G8 q 5 := ⟨al8, by rw [e7, zp_mod (by omega)]; omega, by rw [e7, zp_mod (by omega)]⟩
          refine ⟨al8, cVx (c_initT o8) (by decide) (Nat.zero_le _) (fun G10 h10 => ?_)⟩
          obtain ⟨i10, r0, r1, r2, r3, r4⟩ := h10
          have f10 : zfr [160] X G10 := f8.trans (zfr_of (t := 160) (i := nT S) (by omega) (by simp) i10.1 i10.2.1 (fun q' hq => i10.2.2 q' (by rw [e7]; exact hq)))
          have n10 : zcn G10 160 = nT S + 1 := by rw [i10.1, e8, zcn_nw, if_pos rfl, hc]
          have l10 : zAL G10 3 (nT S) (zp 160) := hl.fr f10 (by omega) (n1f _ (by omega)) (n1f _ (by omega)) (n1f _ (by omega))
          have hcs : Cond.castable (zC 5) "java/lang/Object" ∈ zcast := by decide +kernel
          have hel : ∀ j, j < nT S + 1 → zel G10 (zp 160 j) := fun j hj => zel_zp (c := 5) (by omega) (by omega) (by omega) (by decide) hcs
          rw [q5, cd.2.1, e7]
          refine ⟨zobL l10 (by omega), cIx (c_add (b := 2 * nT S + 12) (d := 7) l10 (by omega) (by omega) (by omega) (hel _ (by omega)) (fun j hj => hel j (by omega)) (Nat.le_refl _) (Nat.le_refl _)) (by decide) (by omega) (fun y G13 h13 => ?_)⟩
          obtain ⟨-, l13, f13⟩ := h13
          rw [zif_n] at l13
          have n2f : ∀ t, t ≠ 3 → t ≠ 3075 → t ∉ [3, 3072 + 3] := fun t h1 h2 => by simp [h1, h2]
          have fr : zfr [160, 3, 3075] X G13 := (f10.mono (by simp)).trans (f13.mono (by intro t ht; simp at ht ⊢; omega))
          have iv : ∀ k, ziv G13 (zp 160 k) = ziv G10 (zp 160 k) := fun k => f13.iv (by omega) (n2f _ (by omega) (by omega))
          rw [e7] at r0 r1 r2 r3 r4
          have h13 : PO K (zlend S x n f t tr) m n1 m1 G13 := h.lent c fr l13 (by rw [f13.2.1 _ (n2f _ (by omega) (by omega)), n10]) (fun k hk => by
            have hne : zp 160 k ≠ q := by rw [e7]; exact zp_ni (by omega) (by omega)
            rw [iv, (i10.2.2 _ hne).1, e8]
            funext j
            rw [ziv_nw, if_neg (by rw [hc, ← e7]; exact hne)]) (by rw [iv]; exact ⟨r0, r1, r2, r3, r4⟩)
          have cd13 := h13.of.cd
          have eT : nT (zlend S x n f t tr) = nT S + 1 := by
            show (zlend S x n f t tr 416 52).toNatClampNeg = _
            rw [zlend_n.2.2.2.2.2, hT.1, n_p1, n_nn (by omega)]
          rw [h13.o.2.2.2.2.1, cd13.2.1]
          refine ⟨h13.o.1, cd13.1, zobL l13 (by omega), csize l13 (by omega) (by decide) ?_⟩
          rw [← hQ]
          unfold fLend
          rw [f3f (nn hx), f3f (nn hg), f3f (by omega), hT.1, n_p1]
          exact cO_ok rfl h13
        · rw [show (20 : Int32) = Int32.ofNat 20 from rfl, n_lt (by omega) (by omega)] at c
          rw [← hQ]
          unfold fLend
          rw [f3f (nn hx), f3f (nn hg), f3t (by omega)]
          exact cO_ok rfl h
      · exact bad (by decide) hg
    have e20 : ∀ s0, (s0 = 1 ∧ inn n 1 30) ∨ (s0 = 0 ∧ ¬ inn n 1 30) → zW E l mX11_lend 9 70 X Q 70 20 [some (.ref (zp 384 0)), some (.int x), some (.int n), some (.int f), some (.int t), some (.int tr)] [.int s0] X := by
      intro s0 hs
      refine wpt_X11_lend_20 ?_; unfold wp_X11_lend_20
      rcases hs with ⟨rfl, hg⟩ | ⟨rfl, hg⟩
      · refine cV (c_demand1 htr) (by decide) ?_
        rw [q7, show ziv X (zp 224 0) 6 = S 416 1 from h.of.f6]
        refine ⟨h.o.1, h.of.oo, fun c => bad (by decide) (fun z => z.2.1 c), fun c => ⟨fun c2 => bad (by decide) (fun z => z.2.2.1 c2), fun c2 => ⟨fun c3 => bad (by decide) (fun z => z.2.2.2.1 c3), fun c3 => cV (c_demand1 htr) (by decide) ?_⟩⟩⟩
        exact ⟨fun c4 => e73 0 (Or.inr ⟨rfl, fun z => z.2.2.2.2.1 c4⟩), fun c4 => ⟨fun c5 => e73 0 (Or.inr ⟨rfl, fun z => z.2.2.2.2.2 c5⟩), fun c5 => e73 1 (Or.inl ⟨rfl, hg, c, c2, c3, c4, c5⟩)⟩⟩
      · exact bad (by decide) (fun z => hg z.1)
    obtain ⟨d, hd, rfl⟩ := inn_nat (n := 3) (by omega) hx
    refine z_meth (by decide) (Nat.le_of_ble_eq_true rfl) (by simp [Value.category]) (wpt_X11_lend_0 ?_); unfold wp_X11_lend_0
    refine cV (c_desk htr (by omega)) (by decide) ⟨fun c => e20 0 (Or.inr ⟨rfl, fun z => z.1 c⟩), fun c => ⟨fun c2 => e20 0 (Or.inr ⟨rfl, fun z => z.2 c2⟩), fun c2 => e20 1 (Or.inl ⟨rfl, c, c2⟩)⟩⟩
  · refine z_meth (by decide) (Nat.le_of_ble_eq_true rfl) (by simp [Value.category]) (wpt_X11_lend_0 ?_); unfold wp_X11_lend_0
    refine xcV_th (c_deskNo htr hx) (by decide) (by decide) ?_
    rw [← hQ]
    unfold fLend
    rw [f3t hx]
    exact cO_ex (by decide) rfl h
/-! tell -/
theorem zheld_in (h : SD S) (hN : SN S) : ∀ n, n ≤ nA S → SD (zheld S n).2 ∧ SN (zheld S n).2 ∧ (zheld S n).2 416 1 = S 416 1 ∧ nA (zheld S n).2 = nA S := by
  intro n
  induction n with
  | zero => exact fun _ => ⟨h, hN, rfl, rfl⟩
  | succ n ih =>
    intro hn
    obtain ⟨a, b, c, d⟩ := ih (by omega)
    rw [zheld_s]
    by_cases e : (zheld S n).2 1165 (7 * n + 0) = 3
    · rw [if_pos e]
      refine ⟨a.chk, ?_, ?_, ?_⟩
      · exact b.up (by omega) (by omega)
      · show zchk (zheld S n).2 n 416 1 = _
        unfold zchk; rw [zup_ne (by omega)]; exact c
      · show nA (zchk (zheld S n).2 n) = _
        unfold zchk; rw [nA_up (by omega)]; exact d
    · rw [if_neg e]; exact ⟨a, b, c, d⟩
theorem SI.q (h : SI S) (hS : ∀ t k, sc t k → t ≠ 1135 → S' t k = S t k) (ho : S' 416 42 = 0 ∨ S' 416 42 = 1 ∨ S' 416 42 = 2) (hB : nB S ≤ 1000) (hq : ∀ p q, p < 80 → q < 80 → nP S ≤ p ∨ nP S ≤ q → S' 1135 (80 * p + q) = 0) : SI S' := by
  obtain ⟨⟨⟨⟨t1, t2⟩, t3⟩, l1, -, b1, q1, n2⟩, sb, sd, td, sn⟩ := h
  have k : ∀ t k, sc t k ∧ t ≠ 1135 → S' t k = S t k := fun t k hc => hS t k hc.1 hc.2
  have eT : nTp S' = nTp S := by unfold nTp; rw [k _ _ (by unfold sc; omega)]
  have eL : nL S' = nL S := by unfold nL; rw [k _ _ (by unfold sc; omega)]
  have eP : nP S' = nP S := by unfold nP; rw [k _ _ (by unfold sc; omega)]
  have eA : nA S' = nA S := by unfold nA; rw [k _ _ (by unfold sc; omega)]
  have eB : nB S' = nB S := by unfold nB; rw [k _ _ (by unfold sc; omega)]
  refine ⟨?_, fun p hp => ?_, sd.cg (fun j => k _ _ (by unfold sc; omega)) (by omega) (by omega), ?_, fun a ha => ?_⟩
  · unfold SK TB
    rw [eT, eL, eP, k 416 3 (by unfold sc; omega), k 416 19 (by unfold sc; omega)]
    exact ⟨⟨⟨t1, t2⟩, fun j hj => by rw [k _ _ (by unfold sc; omega)]; exact t3 j hj⟩, l1, ho, fun p hp => by rw [k _ _ (by unfold sc; omega)]; exact b1 p hp, hq, fun p hp => by rw [k _ _ (by unfold sc; omega)]; exact n2 p hp⟩
  · rw [eP] at hp
    rw [k 416 1 (by unfold sc; omega), k 1129 _ (by unfold sc; omega)]; exact sb p hp
  · unfold TD; rw [k 416 1 (by unfold sc; omega)]; exact td
  · rw [eA] at ha
    rw [k 1165 _ (by unfold sc; omega), k 1165 _ (by unfold sc; omega)]; exact sn a ha
theorem zto_at {p q : Nat} {v : Int32} {a b : Nat} (hq : q < 80) (hp : p < 80) (hb : b < 80) : ztold S p q v 1135 (80 * a + b) = if (a = p ∧ b = q) ∨ (a = q ∧ b = p) then v else S 1135 (80 * a + b) := by
  unfold ztold
  rw [zup_at, zup_at]
  by_cases h1 : a = q ∧ b = p
  · rw [if_pos (by omega), if_pos (Or.inr h1)]
  · rw [if_neg (by omega)]
    by_cases h2 : a = p ∧ b = q
    · rw [if_pos (by omega), if_pos (Or.inl h2)]
    · rw [if_neg (by omega), if_neg (by omega)]
theorem ztold_o {p q : Nat} {v : Int32} {t k : Nat} (h : t ≠ 1135) : ztold S p q v t k = S t k := by
  unfold ztold; rw [zup_ne (by omega), zup_ne (by omega)]
theorem ztold_c {p q : Nat} {v : Int32} (hne : p ≠ q) (hp : p < 80) (hq : q < 80) : ztold S q p v = ztold S p q v := by
  unfold ztold; rw [zup_cm (by omega)]
/-- both of two are told -/
theorem PO.told {p q : Nat} {v : Int32} (h : PO K S m n1 m1 X) (hp : p < nP S) (hq : q < nP S) (hv : v = 0 ∨ v = 1 ∨ v = 2) : PO K (ztold S p q v) m n1 m1 (zsi (zsi X (zp 1031 p) q (tcv v)) (zp 1031 q) p (tcv v)) := by
  have hN := h.of.ri.2.1.2
  have hf : zfr [1031] X (zsi (zsi X (zp 1031 p) q (tcv v)) (zp 1031 q) p (tcv v)) := (zfr.si (by rw [zp_mod (by omega)]; simp)).trans (zfr.si (by rw [zp_mod (by omega)]; simp))
  have no : ∀ t, t ≠ 1031 → t ∉ [1031] := fun t h => by simp [h]
  have ks : ∀ t i, t ≠ 1135 → ztold S p q v t i = S t i := fun t i ht => ztold_o ht
  have e42 : ztold S p q v 416 42 = S 416 42 := ks _ _ (by omega)
  refine h.gen hf (fun t ht => no t (by unfold PT at ht; simp at ht; omega)) (by decide) ?_ (fun t i hc => ks t i (by unfold pk tk at hc; omega)) (h.si.q (fun t i hc hne => ks t i hne) (by rw [e42]; exact h.or) (Nat.le_trans h.of.ri.2.2.1.2 (by omega)) (fun a b ha hb hc => ?_))
  · rw [e42]
    have o := h.of
    refine o.mk2 hf (fun t ht => no t (by omega)) (ztold_RI o.ri) ⟨⟨fun a b => ?_, fun a b ha hb => ?_⟩, fun a => by rw [ks _ _ (by omega)]; exact o.rj.2.1 a, fun a => by rw [ks _ _ (by omega)]; exact o.rj.2.2.1 a, by rw [ks _ _ (by omega)]; exact o.rj.2.2.2⟩ ?_ ((o.cd.cg (ks _ _ (by omega)) (fun t i hc => ks t i (by omega))).fr hf (no _ (by omega)) (no _ (by omega)) (no _ (by omega)) (no _ (by omega)) (no _ (by omega)) (no _ (by omega))) (fun t i hc => ks t i (by unfold oc at hc; omega))
    · unfold ztold
      rw [zup_at, zup_at]
      split
      · exact hv
      · split
        · exact hv
        · exact o.rj.1.1 a b
    · rw [zto_at (by omega) (by omega) hb, zto_at (by omega) (by omega) ha, o.rj.1.2 a b ha hb]
      by_cases c : (a = p ∧ b = q) ∨ (a = q ∧ b = p)
      · rw [if_pos c, if_pos (by omega)]
      · rw [if_neg c, if_neg (by omega)]
    · obtain ⟨c1, c2, c3, ⟨c4, c5, c6⟩, c7⟩ := o.cp
      have eP : nP (ztold S p q v) = nP S := by unfold nP; rw [ks _ _ (by omega)]
      unfold CP
      rw [eP]
      refine ⟨hf.ob c1, c2, c3.fr hf (by omega) (no _ (by omega)) (no _ (by omega)) (no _ (by omega)), ⟨c4, c5, c6⟩, fun i hi => ?_⟩
      obtain ⟨⟨a1, a2, a3⟩, ⟨b1, b2, b3⟩, ⟨d1, d2, d3⟩⟩ := c7 i hi
      have ne8 : ∀ x, zp 288 i ≠ zp 1031 x := fun x => zp_ne (by omega) (by omega) (by omega)
      have ne0 : ∀ x, zp 1030 i ≠ zp 1031 x := fun x => zp_ne (by omega) (by omega) (by omega)
      refine ⟨⟨?_, ?_, ?_⟩, ⟨b1, b2, fun k hk => ?_⟩, ⟨d1, d2, fun j hj => ?_⟩⟩
      · rw [iv_n (ne8 _), iv_n (ne8 _)]; exact a1
      · rw [iv_n (ne8 _), iv_n (ne8 _), ks _ _ (by omega)]; exact a2
      · rw [iv_n (ne8 _), iv_n (ne8 _), ks _ _ (by omega)]; exact a3
      · rw [iv_n (ne0 _), iv_n (ne0 _), ks _ _ (by omega)]; exact b3 k hk
      · rw [zto_at (by omega) (by omega) hj, ziv_si, ziv_si]
        by_cases c : i = q ∧ j = p
        · rw [if_pos ⟨by rw [c.1], c.2⟩, if_pos (Or.inr c)]
        · rw [if_neg (fun z => c ⟨(zp_inj (by omega) (by omega) z.1).2, z.2⟩)]
          by_cases e : i = p ∧ j = q
          · rw [if_pos ⟨by rw [e.1], e.2⟩, if_pos (Or.inl e)]
          · rw [if_neg (fun z => e ⟨(zp_inj (by omega) (by omega) z.1).2, z.2⟩), if_neg (by omega)]; exact d3 j hj
  · rw [zto_at (by omega) (by omega) hb, if_neg (by omega)]
    exact h.si.1.2.2.2.2.1 a b ha hb hc
/-- one of two is told -/
theorem c_putTold {p q : Nat} {x : Int32} (o1 : zob X (zp 288 p) 9) (o2 : zob X (zp 288 q) 9) (a1 : zar X (zp 1031 p) 0) (n2 : ziv X (zp 288 q) 0 = Int32.ofNat q) (f1 : zrv X (zp 288 p) 5 = zp 1031 p) (f2 : zln X (zp 1031 p) = 80) (hq : q < 80) : zMet E l mX8_putTold 0 0 [.ref (zp 288 p), .ref (zp 288 q), .int x] X (zVx (fun X' => X' = zsi X (zp 1031 p) q x)) := by
  refine z_meth (by decide) (Nat.le_of_ble_eq_true rfl) (by simp [Value.category]) (wpt_X8_putTold_0 ?_); unfold wp_X8_putTold_0
  rw [n2, f1, f2, n_nn (by omega)]
  exact ⟨o2, ie (n_neg (by omega)) ⟨o2, o1, Or.inl a1, ie (by rw [n_le (by omega) (by omega)]; omega) ⟨o1, o2, a1, n_in hq (by omega), fun G1 e1 => ⟨rfl, e1⟩⟩⟩⟩
theorem p_tell (htr : l.stackTraces = false) (h : PO K S m n1 m1 X) (x y s : Int32) : zMet E l mX11_tell 8 7 [.ref (zp 384 0), .int x, .int y, .int s] X (cO cy (xs xIO xIA xIA) (fTell S x y s) (fun S' G' => PO K S' m n1 m1 G')) := by
  have hN := h.of.ri.2.1.2
  have h0 : PO K (zs S) m n1 m1 X := h.sim (zs0 zsim.rf)
  by_cases hx : zin x (nP S)
  · by_cases hy : zin y (nP S)
    · obtain ⟨p, hp, rfl⟩ := zin_of hx (by omega)
      obtain ⟨q, hq, rfl⟩ := zin_of hy (by omega)
      have ef : fTell S (Int32.ofNat p) (Int32.ofNat q) s = fCalls3 (Int32.ofNat p = Int32.ofNat q) (2, 0, S) (0, (zheld (ztell S p q s) (nA S)).1, (zheld (ztell S p q s) (nA S)).2) := by unfold fTell; rw [f3f (nn ⟨hx, hy⟩), n_nn (by omega), n_nn (by omega)]
      rw [ef]
      generalize hQ : cO cy (xs xIO xIA xIA) (fCalls3 (Int32.ofNat p = Int32.ofNat q) (2, 0, S) (0, (zheld (ztell S p q s) (nA S)).1, (zheld (ztell S p q s) (nA S)).2)) (fun S' G' => PO K S' m n1 m1 G') = Q
      have cp := h.of.cp
      obtain ⟨⟨np, -, -⟩, -, ⟨fp, lp, -⟩⟩ := cp.2.2.2.2 p hp
      obtain ⟨⟨nq, -, -⟩, -, ⟨fq, lq, -⟩⟩ := cp.2.2.2.2 q hq
      have e40 : ¬ Int32.ofNat p = Int32.ofNat q → ∀ s0 : Int32, (s = 0 ∧ s0 = 2) ∨ (¬ s = 0 ∧ s0 = 1) → ∀ k, zW E l mX11_tell 8 7 X Q k 40 [some (.ref (zp 384 0)), none, none, some (.int s), some (.ref (zp 288 p)), some (.ref (zp 288 q))] [.int s0, .ref (zp 288 q), .ref (zp 288 p)] X := by
        intro c s0 hs k
        have hne : p ≠ q := fun e => c (by rw [e])
        have fin : ∀ G3, PO K (ztell S p q s) m n1 m1 G3 → ∀ k, zob G3 (zp 384 0) 12 ∧ zob G3 (zrv G3 (zp 384 0) 8) 7 ∧ xcI E l mX6_checkHeldAgain 8 [.ref (zrv G3 (zp 384 0) 8)] G3 k (fun X G9 => Q (.inr X) G9) (fun y5 G6 k7 => Q (.inl (some (.int y5))) G6) := by
          intro G3 h3 k
          have eA : nA (ztell S p q s) = nA S := by unfold ztell nA; rw [ztold_o (by omega)]; unfold zs; rw [zup_ne (by omega)]
          rw [h3.o.2.2.2.2.2.2.1]
          refine ⟨h3.o.1, h3.of.oo, cIx (c_checkHeld h3.of) (by decide) (Nat.zero_le _) (fun y G6 h6 => ?_)⟩
          obtain ⟨rfl, h6, f6⟩ := h6
          obtain ⟨d1, d2, d3, d4⟩ := zheld_in h3.si.2.2.1 h3.si.2.2.2.2 _ (Nat.le_refl _)
          rw [← hQ, f3f c, ← eA]
          exact cO_ok rfl (h3.zd f6 zheld_dk h6 d3 d1 d2)
        have ne8 : ∀ i x, zp 288 i ≠ zp 1031 x := fun i x => zp_ne (by omega) (by omega) (by omega)
        refine wpt_X11_tell_40 ?_; unfold wp_X11_tell_40
        refine ⟨cp.ob hp, cVx (c_putTold (x := s0) (cp.ob hp) (cp.ob hq) (cp.to hp) nq fp lp (by omega)) (by decide) (Nat.zero_le _) (fun G1 e1 => ?_)⟩
        have second : ∀ x, zMet E l mX8_putTold 0 0 [.ref (zp 288 q), .ref (zp 288 p), .int x] G1 (zVx (fun X' => X' = zsi G1 (zp 1031 q) p x)) := fun x => c_putTold (by rw [e1]; exact cp.ob hq) (by rw [e1]; exact cp.ob hp) (by rw [e1]; exact cp.to hq) (by rw [e1, iv_n (ne8 _ _)]; exact np) (by rw [e1, zrv_si]; exact fq) (by rw [e1, zln_si]; exact lq) (by omega)
        have oq : zob G1 (zp 288 q) 9 := by rw [e1]; exact cp.ob hq
        rcases hs with ⟨c2, rfl⟩ | ⟨c2, rfl⟩
        · refine it c2 ⟨oq, cVx (second 2) (by decide) (Nat.zero_le _) (fun G3 e3 => fin G3 ?_ _)⟩
          have := h0.told (p := p) (q := q) (v := 1) (by exact hp) (by exact hq) (by decide)
          rw [show tcv 1 = 2 from by decide] at this
          unfold ztell
          rw [if_pos c2, e3, e1]; exact this
        · refine ie c2 ⟨oq, cVx (second 1) (by decide) (Nat.zero_le _) (fun G3 e3 => fin G3 ?_ _)⟩
          have := h0.told (p := p) (q := q) (v := 2) (by exact hp) (by exact hq) (by decide)
          rw [show tcv 2 = 1 from by decide] at this
          unfold ztell
          rw [if_neg c2, e3, e1]; exact this
      refine z_meth (by decide) (Nat.le_of_ble_eq_true rfl) (by simp [Value.category]) (wpt_X11_tell_0 ?_); unfold wp_X11_tell_0
      refine ⟨h.o.1, cR (c_personAt htr h hp) (by decide) ⟨h.o.1, cR (c_personAt htr h hq) (by decide) ⟨fun c => ?_, fun c => cV (c_demand1 htr) (by decide) ⟨fun c2 => e40 c 2 (Or.inl ⟨c2, rfl⟩) _, fun c2 => e40 c 1 (Or.inr ⟨c2, rfl⟩) _⟩⟩⟩⟩
      refine xcV_th (c_demand0 htr) (by decide) (by decide) ?_
      rw [← hQ, f3t c]
      exact cO_ex (by decide) rfl h
    · have ef : fTell S x y s = (1, 0, S) := by unfold fTell; rw [f3t (fun z => hy z.2)]
      rw [ef]
      obtain ⟨p, hp, rfl⟩ := zin_of hx (by omega)
      refine z_meth (by decide) (Nat.le_of_ble_eq_true rfl) (by simp [Value.category]) (wpt_X11_tell_0 ?_); unfold wp_X11_tell_0
      exact ⟨h.o.1, cR (c_personAt htr h hp) (by decide) ⟨h.o.1, xcR_th (c_personNo htr h hy) (by decide) (by decide) (cO_ex (by decide) rfl h)⟩⟩
  · have ef : fTell S x y s = (1, 0, S) := by unfold fTell; rw [f3t (fun z => hx z.1)]
    rw [ef]
    refine z_meth (by decide) (Nat.le_of_ble_eq_true rfl) (by simp [Value.category]) (wpt_X11_tell_0 ?_); unfold wp_X11_tell_0
    exact ⟨h.o.1, xcR_th (c_personNo htr h hx) (by decide) (by decide) (cO_ex (by decide) rfl h)⟩
end ZCx
