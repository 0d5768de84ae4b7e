/-! an office: serving, a desk's work, a day -/
theorem zline_eq {S S' : ZS9} {r st : Int32} {n : Nat} (h : ∀ t k, t = 2158 ∨ t = 1155 ∨ t = 1156 ∨ t = 1157 → S' t k = S t k) {L : List Nat} (hL : L.Pairwise (zlt S r)) (hm : ∀ x, x ∈ L ↔ x < n ∧ S' 1165 (7 * x + 0) = st) : zline S' r st n = L := by
  refine zuniq (lt := zlt S r) (fun a => zlt_irr) (fun a b => zlt_as) ?_ hL (fun x => ?_)
  · exact (zline_sort (S := S') (r := r) (st := st) (n := n)).imp (fun {a b} hab => (zlt_cg h).mp hab)
  · rw [zline_mem, hm]
theorem zgets_1 {S : ZS9} {a b : Nat} : zgets S a 1165 (7 * b + 0) = if b = a then 7 else S 1165 (7 * b + 0) := by
  have h2 : zgets2 S a 1165 (7 * b + 0) = if b = a then 7 else S 1165 (7 * b + 0) := by
    unfold zgets2
    rw [zup_ne (by omega), zup_at]
    by_cases h : b = a
    · rw [if_pos (by omega), if_pos h]
    · rw [if_neg (by omega), if_neg h]
  unfold zgets
  split
  · exact h2
  · rw [zup_ne (by omega), zup_ne (by omega)]; exact h2
theorem zgets_o {S : ZS9} {a t k : Nat} (h : t ≠ 1165) (h2 : ¬ (t = 416 ∧ k = 73)) : zgets S a t k = S t k := by
  have e2 : zgets2 S a t k = S t k := by unfold zgets2; rw [zup_ne (by omega), zup_ne (by omega)]
  unfold zgets
  split
  · exact e2
  · rw [zup_ne h2, zup_ne (by omega)]; exact e2
/-- whom a desk serves goes on; the others stay -/
theorem zdoes_st {S : ZS9} {d a b : Nat} (hd : d < 4) : (b ≠ a → zdoes S d a 1165 (7 * b + 0) = S 1165 (7 * b + 0)) ∧ zdoes S d a 1165 (7 * a + 0) ≠ rSt d := by
  match d, hd with
  | 0, _ =>
    show (b ≠ a → zread S a 1165 (7 * b + 0) = _) ∧ zread S a 1165 (7 * a + 0) ≠ _
    unfold zread
    refine ⟨fun h => by rw [zup_ne (by omega), zup_ne (by omega), zup_ne (by omega)], ?_⟩
    rw [zup_ne (by omega), zup_s]
    split <;> decide
  | 1, _ =>
    show (b ≠ a → zchk S a 1165 (7 * b + 0) = _) ∧ zchk S a 1165 (7 * a + 0) ≠ _
    unfold zchk
    refine ⟨fun h => by rw [zup_ne (by omega)], ?_⟩
    rw [zup_s]
    unfold zst
    split
    · decide
    · split
      · decide
      · split <;> decide
  | 2, _ =>
    show (b ≠ a → zup S 1165 (7 * a + 0) 5 1165 (7 * b + 0) = _) ∧ zup S 1165 (7 * a + 0) 5 1165 (7 * a + 0) ≠ _
    exact ⟨fun h => zup_ne (by omega), by rw [zup_s]; decide⟩
  | 3, _ =>
    show (b ≠ a → zprint3 (zprint2 (zprint1 S a) a) a 1165 (7 * b + 0) = _) ∧ zprint3 (zprint2 (zprint1 S a) a) a 1165 (7 * a + 0) ≠ _
    have e2 : ∀ c, zprint2 (zprint1 S a) a 1165 (7 * c + 0) = S 1165 (7 * c + 0) := by
      intro c
      unfold zprint2
      rw [zup_ne (by omega), zup_ne (by omega), zup_ne (by omega), zup_ne (by omega), zup_ne (by omega), zup_ne (by omega), zup_ne (by omega)]
      unfold zprint1
      split
      · rfl
      · exact zend_no (by omega)
    unfold zprint3
    split
    · rw [zgets_1, zgets_1]
      refine ⟨fun h => ?_, ?_⟩
      · rw [if_neg h, zup_ne (by omega), e2]
      · rw [if_pos rfl]; decide
    · refine ⟨fun h => by rw [zup_ne (by omega), zup_ne (by omega), e2], ?_⟩
      rw [zup_s]; decide
theorem zsrv_416 {d k : Nat} (hk : k ≠ 71 ∧ k ≠ 43 ∧ k ≠ 73) : ∀ {L : List Nat} {u : Int32} {S : ZS9}, (zsrv d L u S).2 416 k = S 416 k
  | [], _, _ => rfl
  | a :: L, u, S => by
    unfold zsrv
    by_cases h : u < ztakes S d a ∨ (d = 3 ∧ ¬ zcan S)
    · rw [if_pos h]
    · rw [if_neg h, zsrv_416 hk, zdoes_416 hk]
theorem nB_does {S : ZS9} {d a : Nat} (hR : RI S) (hd : d < 4) : nB (zdoes S d a) = if d = 3 then nB S + 1 else nB S := by
  match d, hd with
  | 0, _ => show nB (zread S a) = nB S; unfold zread; rw [nB_up (by omega), nB_up (by omega), nB_up (by omega)]
  | 1, _ => show nB (zchk S a) = nB S; unfold zchk; rw [nB_up (by omega)]
  | 2, _ => show nB (zup S 1165 (7 * a + 0) 5) = nB S; rw [nB_up (by omega)]
  | 3, _ =>
    show nB (zprints S a) = nB S + 1
    have h1 := hR.2.2.1
    have e : nB (zprints S a) = (S 416 71 + 1).toNatClampNeg := by
      show (zprints S a 416 71).toNatClampNeg = _
      rw [nb_prints]
    rw [e, h1.1, n_p1, n_nn (by omega)]
section ZCg
variable {w m : Nat} {S : ZS9} {r : Int32} {X : ZG} {E : ZE} {l : Launch}
theorem SO.cgN {S' : ZS9} (h : SO w S r m X) (hS : ∀ t k, t ≠ 1177 → ¬ (t = 416 ∧ (k = 0 ∨ k = 78)) → S' t k = S t k) : SO w S' r m X := by
  obtain ⟨⟨o1, o2, o3, o4, o5, o6, o7⟩, ⟨a1, a2, a3⟩, ⟨b1, b2, b3, b4, b5⟩⟩ := h
  have hA : nA S' = nA S := by unfold nA; rw [hS _ _ (by omega) (by omega)]
  have hB : nB S' = nB S := by unfold nB; rw [hS _ _ (by omega) (by omega)]
  refine ⟨⟨o1, o2, o3, o4, o5, o6, fun k h1 h2 => ?_⟩, ⟨by rw [hA]; exact a1, by rw [hA]; exact a2, fun a ha => ?_⟩, ⟨b1, b2, by rw [hB]; exact b3, b4, fun b hb k hk => ?_⟩⟩
  · rw [o7 k h1 h2]
    unfold oFld
    rw [hS 416 71 (by omega) (by omega), hS 416 1 (by omega) (by omega), hS 416 43 (by omega) (by omega), hS 416 72 (by omega) (by omega), hS 416 73 (by omega) (by omega), hS 416 74 (by omega) (by omega), hS 416 75 (by omega) (by omega), hS 416 76 (by omega) (by omega)]
  · rw [hA] at ha
    exact (a3 a ha).cg (fun t k ht => hS t k (by omega) (by omega))
  · rw [hB] at hb
    rw [b5 b hb k hk, hS _ _ (by omega) (by omega)]
theorem OF.rw (h : OF w S r m X) (L : List Nat) : OF w (zrw S L) r m X := by
  refine h.step zdk.rw (h.ri.rw L) (h.rj.dk zdk.rw (fun a => Or.inl (zrw_st _ _ (by omega) (by omega))) ?_) (h.so.cgN (fun t k h1 h2 => zrw_st _ _ h1 (by omega))) zfr.rf
  rw [zrw_st _ _ (by omega) (by omega)]; exact h.rj.2.2.2
theorem c_serve (h : OF w S r m X) {d a : Nat} (hd : d < 4) (ha : a < nA S) (hc : d = 3 → nB S < 150) : zMet E l mX6_serve 10 (320 * (max m (nB (zdoes S d a)) - m)) [.ref (zp (224 + w) 0), .int (Int32.ofNat d), .ref (zp (32 + w) a)] X (zVx (fun X' => OF w (zdoes S d a) r (max m (nB (zdoes S d a))) X' ∧ zfr (TW w) X X')) := by
  have hm := h.mB
  have hw := h.w2
  rw [nB_does h.ri hd]
  refine z_meth (by decide) (Nat.le_of_ble_eq_true rfl) (by simp [Value.category]) (wpt_X6_serve_0 ?_); unfold wp_X6_serve_0
  match d, hd with
  | 0, _ =>
    have em : max m (if 0 = 3 then nB S + 1 else nB S) = m := by rw [if_neg (by decide)]; omega
    rw [em]
    exact ie (by decide) ⟨h.oo, cVx (c_read h ha) (by decide) (Nat.zero_le _) (fun G2 h2 => ⟨rfl, h2⟩)⟩
  | 1, _ =>
    have em : max m (if 1 = 3 then nB S + 1 else nB S) = m := by rw [if_neg (by decide)]; omega
    rw [em]
    exact it (by decide) (ie (by decide) ⟨h.oo, cVx (c_check h ha) (by decide) (Nat.zero_le _) (fun G2 h2 => ⟨rfl, h2⟩)⟩)
  | 2, _ =>
    have em : max m (if 2 = 3 then nB S + 1 else nB S) = m := by rw [if_neg (by decide)]; omega
    rw [em]
    refine it (by decide) (it (by decide) (ie (by decide) ⟨h.ob ha, fun G2 e2 => ⟨rfl, ?_, ?_⟩⟩))
    · rw [e2]; exact h.putA (by unfold gk; omega) (by omega)
    · rw [e2]; exact frA hw zfr.rf
  | 3, _ =>
    rw [if_pos rfl]
    exact it (by decide) (it (by decide) (it (by decide) ⟨h.oo, cVx (c_print h ha (hc rfl)) (by decide) (Nat.le_refl _) (fun G2 h2 => ⟨rfl, h2⟩)⟩))
theorem c_workAt (h : OF w S r m X) (hr : r = 0 ∨ r = 1 ∨ r = 2) {d : Nat} (hd : d < 4) : zMet E l mX6_workAt 11 (320 * (max m (nB (zwork1 S d r).2) - m)) [.ref (zp (224 + w) 0), .int (Int32.ofNat d)] X (zIx (fun x X' => x = (zwork1 S d r).1 ∧ OF w (zwork1 S d r).2 r (max m (nB (zwork1 S d r).2)) X' ∧ zfr (TW w) X X')) := by
  have hA := h.nA2
  have hw := h.w2
  generalize hQ : zIx (fun x X' => x = (zwork1 S d r).1 ∧ OF w (zwork1 S d r).2 r (max m (nB (zwork1 S d r).2)) X' ∧ zfr (TW w) X X') = Q
  generalize hB : 320 * (max m (nB (zwork1 S d r).2) - m) = B
  have loop : ∀ (L : List Nat) u S1 m1 X1 i k, OF w S1 r m1 X1 → zfr (TW w) X X1 → L = zline S1 r (rSt d) (nA S1) → L.length ≤ nA S - i → i ≤ nA S → nA S1 = nA S → zsrv d L u S1 = zwork1 S d r → m1 = max m (nB S1) → 320 * (max m1 (nB (zwork1 S d r).2) - m1) ≤ k →
      zW E l mX6_workAt 11 B X Q k 41 [some (.ref (zp (224 + w) 0)), some (.int (Int32.ofNat d)), some (.int u), some (.int (Int32.ofNat i)), none] [] X1 := by
    intro L
    induction L with
    | nil =>
      intro u S1 m1 X1 i k h1 f1 hL hlen hi hn hs hm hk
      have fin : Q (.inl (some (.int u))) X1 := by
        rw [← hQ, ← hs, ← show m1 = max m (nB (zsrv d [] u S1).2) from hm]
        exact ⟨u, rfl, rfl, h1, f1⟩
      have hl := h1.aL
      have cs := h1.cs
      have cf := c_firstIn (E := E) (l := l) h1 hr (rSt d)
      rw [← hL] at cf
      refine wpt_X6_workAt_41 ?_; unfold wp_X6_workAt_41
      rw [h1.r3]
      refine ⟨h1.oo, zobL hl (by omega), csize hl (by omega) (by decide) ⟨fun _ => fin, fun c => ⟨Or.inr cs.1, by rw [cs.2.1]; exact n_in hd (by omega), h1.oo, ?_⟩⟩⟩
      rw [n_nn (by omega), cs.2.2 d hd]
      exact cR cf (by decide) (it rfl fin)
    | cons a L ih =>
      intro u S1 m1 X1 i k h1 f1 hL hlen hi hn hs hm hk
      have hl := h1.aL
      have cs := h1.cs
      have hsort := zline_sort (S := S1) (r := r) (st := rSt d) (n := nA S1)
      rw [← hL] at hsort
      have hmem : ∀ x, x ∈ a :: L ↔ x < nA S1 ∧ S1 1165 (7 * x + 0) = rSt d := fun x => by rw [hL]; exact zline_mem
      have ha := ((hmem a).mp List.mem_cons_self).1
      have cf := c_firstIn (E := E) (l := l) h1 hr (rSt d)
      rw [← hL] at cf
      rw [List.length_cons] at hlen
      have stop : (u < ztakes S1 d a ∨ (d = 3 ∧ ¬ zcan S1)) → Q (.inl (some (.int u))) X1 := by
        intro hc
        unfold zsrv at hs
        rw [if_pos hc] at hs
        rw [← hQ, ← hs, ← hm]
        exact ⟨u, rfl, rfl, h1, f1⟩
      have go : ¬ (u < ztakes S1 d a ∨ (d = 3 ∧ ¬ zcan S1)) → xcI E l mX6_unitsFor 11 [.int (Int32.ofNat d), .ref (zp (32 + w) a)] X1 k (fun X G9 => Q (.inr X) G9) (fun y10 G11 k12 => zob G11 (zp (224 + w) 0) 7 ∧ xcV E l mX6_serve 11 [.ref (zp (224 + w) 0), .int (Int32.ofNat d), .ref (zp (32 + w) a)] G11 k12 (fun X G9 => Q (.inr X) G9) (fun G13 k14 => zW E l mX6_workAt 11 B X Q k14 41 [some (.ref (zp (224 + w) 0)), some (.int (Int32.ofNat d)), some (.int (u - y10)), some (.int (Int32.ofNat (i + 1))), none] [] G13)) := by
        intro hc
        have hcan : d = 3 → zcan S1 := fun e => Classical.byContradiction fun z => hc (Or.inr ⟨e, z⟩)
        unfold zsrv at hs
        rw [if_neg hc] at hs
        have hR2 : RI (zdoes S1 d a) := h1.ri.does hcan hd
        have hn2 : nA (zdoes S1 d a) = nA S1 := nA_dk zdk.does
        have hb1 := nB_does (a := a) h1.ri hd
        have hmem2 : ∀ x, x ∈ L ↔ x < nA S1 ∧ zdoes S1 d a 1165 (7 * x + 0) = rSt d := by
          intro x
          have hx := hmem x
          have hnd : a ∉ L := fun z => zlt_irr ((List.pairwise_cons.mp hsort).1 a z)
          by_cases e : x = a
          · subst e
            exact ⟨fun z => absurd z hnd, fun z => absurd z.2 (zdoes_st (b := x) hd).2⟩
          · rw [(zdoes_st (S := S1) (a := a) (b := x) hd).1 e, ← hx, List.mem_cons]
            exact ⟨Or.inr, fun z => z.resolve_left e⟩
        have hL2 : L = zline (zdoes S1 d a) r (rSt d) (nA (zdoes S1 d a)) := by
          rw [hn2]
          exact (zline_eq (S := S1) (fun t k ht => zdk.does _ _ (by unfold zdc; omega)) (List.pairwise_cons.mp hsort).2 hmem2).symm
        have hmon : nB (zdoes S1 d a) ≤ nB (zwork1 S d r).2 := by
          rw [← hs]
          exact (zsrv_mn hd hR2 (fun b hb => by rw [hn2]; exact ((hmem2 b).mp hb).1)).2.2.1
        refine cI (c_unitsFor h1 hd ha) (by decide) ⟨h1.oo, cVx (c_serve h1 hd ha (fun e => zcan_nb h1.ri (hcan e))) (by decide) (by omega) (fun G2 h2 => ?_)⟩
        have h12 : nB S1 ≤ nB (zdoes S1 d a) := by rw [hb1]; split <;> omega
        exact ih (u - ztakes S1 d a) (zdoes S1 d a) (max m1 (nB (zdoes S1 d a))) G2 (i + 1) _ h2.1 (f1.trans h2.2) hL2 (by omega) (by omega) (by omega) hs (by omega) (by omega)
      refine wpt_X6_workAt_41 ?_; unfold wp_X6_workAt_41
      rw [h1.r3, n_p1]
      refine ⟨h1.oo, zobL hl (by omega), csize hl (by omega) (by decide) (ie (by rw [n_le (by omega) (by omega)]; omega) ⟨Or.inr cs.1, by rw [cs.2.1]; exact n_in hd (by omega), h1.oo, ?_⟩)⟩
      rw [n_nn (by omega), cs.2.2 d hd]
      refine cR cf (by decide) (ie (zpn (by omega)) (cI (c_unitsFor h1 hd ha) (by decide) ⟨fun c => ⟨fun c3 => go ?_, fun c3 => ⟨h1.oo, cI (c_canPrint h1) (by decide) ⟨fun c4 => go ?_, fun c4 => stop ?_⟩⟩⟩, fun c => stop (Or.inl (i_nle.mp c))⟩))
      · rintro (z | ⟨z, -⟩)
        · exact (i_nlt.mpr c) z
        · exact c3 (by rw [z]; rfl)
      · rintro (z | ⟨-, z⟩)
        · exact (i_nlt.mpr c) z
        · exact z (Classical.not_not.mp (fun z2 => c4 (zbz z2)))
      · have c3 := Classical.not_not.mp c3
        rw [show (3 : Int32) = Int32.ofNat 3 from rfl, n_inj (by omega) (by omega)] at c3
        exact Or.inr ⟨c3, zb_0.mp (Classical.not_not.mp c4)⟩
  have e0 : zline S r (rSt d) (nA S) = zline (zwork0 S d r) r (rSt d) (nA (zwork0 S d r)) := by
    unfold zwork0
    rw [show nA (zrw S (zline S r (rSt d) (nA S))) = nA S from nA_dk zdk.rw]
    refine (zline_eq (S := S) (fun t k ht => zrw_st _ _ (by omega) (by omega)) zline_sort (fun x => ?_)).symm
    rw [zline_mem, zrw_st _ _ (by omega) (by omega)]
  have hm := h.mB
  have enb : nB (zwork0 S d r) = nB S := by unfold zwork0 nB; rw [zrw_st _ _ (by omega) (by omega)]
  have ena : nA (zwork0 S d r) = nA S := nA_dk zdk.rw
  have start : ∀ u k, u = zunits0 S d → k = B → zW E l mX6_workAt 11 B X Q k 41 [some (.ref (zp (224 + w) 0)), some (.int (Int32.ofNat d)), some (.int u), some (.int 0), none] [] X := by
    intro u k hu hk
    exact loop _ u (zwork0 S d r) m X 0 k (h.rw _) zfr.rf e0 (by have := zline_len (S := S) (r := r) (st := rSt d) (n := nA S); omega) (by omega) ena (by rw [hu]; rfl) (by omega) (by omega)
  have cu := c_unitsOn (E := E) (l := l) h.cd h.ri.2.2.2.1.2 (day := S 416 1) hd
  refine z_meth (by decide) (Nat.le_of_ble_eq_true rfl) (by simp [Value.category]) (wpt_X6_workAt_0 ?_); unfold wp_X6_workAt_0
  rw [h.r1, h.f6]
  refine ie (n_neg (by omega)) (it (by rw [show (4 : Int32) = Int32.ofNat 4 from rfl, n_lt (by omega) (by omega)]; omega) ⟨h.oo, h.oo, h.cd.1, cI cu (by decide) ⟨fun c => start _ _ ?_ rfl, fun c => ⟨h.oo, cmax (by decide) (start _ _ ?_ rfl)⟩⟩⟩)
  · unfold zunits0
    rw [if_neg (fun e => c (by rw [e]; rfl))]
  · have hd0 : d = 0 := by
      have := Classical.not_not.mp c
      rw [show (0 : Int32) = Int32.ofNat 0 from rfl, n_inj (by omega) (by omega)] at this
      exact this
    unfold zunits0
    rw [if_pos hd0, h.f11]
end ZCg
