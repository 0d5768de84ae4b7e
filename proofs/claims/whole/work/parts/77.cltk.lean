/-! a law is told -/
theorem zClif_c {w : Nat → Int32} {n q p1 : Nat} {s v : Int32} {cl : ZCLS} (h : zClif w n q s v = .inr (p1, cl)) : cl.2.2 = [] ∨ okc cl.2.2 0 1 := by
  unfold zClif at h
  by_cases hw : wdat w n q 2
  · rw [if_pos hw] at h
    have hk := zP_k (w := w) (n := n) (4 * n + 3) 3 0 (wen w n q) (by omega)
    cases hr : zP w n (4 * n + 3) 3 0 (wen w n q) with
    | inl e => rw [hr] at h; cases h
    | inr pc =>
      obtain ⟨p2, c⟩ := pc
      rw [hr] at h hk
      cases h
      have hk : ∀ a, okc c a (a + 1) := hk
      exact Or.inr (hk 0)
  · rw [if_neg hw] at h
    cases h
    exact Or.inl rfl
theorem zCl_c {w : Nat → Int32} {n p p1 : Nat} {cl : ZCLS} (h : zCl w n p = .inr (p1, cl)) : cl.2.2 = [] ∨ okc cl.2.2 0 1 := by
  unfold zCl at h
  by_cases h6 : zsrt w n p = 6
  · rw [if_pos h6] at h; cases h
  rw [if_neg h6] at h
  by_cases h0 : zsrt w n p = 0
  · rw [if_pos h0] at h
    by_cases h8 : zitem w n (wen w n p) = 8
    · rw [if_pos h8] at h; cases h
    · rw [if_neg h8] at h
      exact zClif_c h
  · rw [if_neg h0] at h
    by_cases h4 : zsrt w n p = 4
    · rw [if_pos h4] at h; exact zClif_c h
    · rw [if_neg h4] at h
      by_cases hn : nmok w n (wen w n p)
      · rw [if_pos hn] at h; exact zClif_c h
      · rw [if_neg hn] at h; cases h
theorem zLw_ok {w : Nat → Int32} {n : Nat} : ∀ r p L, p ≤ n → zLw w n r p = .inr L → L.length ≤ r ∧ (zflat L).length + p ≤ n ∧ ∀ cl, cl ∈ L → (cl.2.2 = [] ∨ okc cl.2.2 0 1) ∧ ∃ s, s < 6 ∧ cl.1 = Int32.ofNat s := by
  intro r
  induction r with
  | zero => intro p L _ h; cases h
  | succ r ih =>
    intro p L hp h
    rw [zLw_s] at h
    cases hz : zCl w n p with
    | inl e => rw [hz] at h; cases h
    | inr r1 =>
      obtain ⟨p1, cl⟩ := r1
      rw [hz] at h
      have h : (if skp w n p1 = n then .inr [cl] else @ite _ (sgat w n p1 59) (Classical.propDecidable _) (match zLw w n r (skp w n p1 + 1) with
        | .inl e => .inl e
        | .inr L => .inr (cl :: L)) (.inl (skp w n p1))) = (Sum.inr L : Nat ⊕ List ZCLS) := h
      obtain ⟨o1, o2, o3, o4⟩ := zCl_ok hp hz
      have oc := zCl_c hz
      have g1 := skp_ge (w := w) o2
      by_cases c : skp w n p1 = n
      · rw [if_pos c] at h
        cases h
        refine ⟨by simp, by rw [zflat_1]; omega, fun x hx => ?_⟩
        rw [List.mem_singleton.mp hx]; exact ⟨oc, o4⟩
      · rw [if_neg c] at h
        by_cases d : sgat w n p1 59
        · rw [if_pos d] at h
          cases hr : zLw w n r (skp w n p1 + 1) with
          | inl e => rw [hr] at h; cases h
          | inr L1 =>
            rw [hr] at h
            cases h
            obtain ⟨i1, i2, i3⟩ := ih _ L1 (by have := d.1; omega) hr
            refine ⟨by rw [List.length_cons]; omega, ?_, fun x hx => ?_⟩
            · have e : zflat (cl :: L1) = cl.2.2 ++ zflat L1 := by
                show zflat ([cl] ++ L1) = _
                rw [zflat_app, zflat_1]
              rw [e, List.length_append]; omega
            · rcases List.mem_cons.mp hx with e | e
              · rw [e]; exact ⟨oc, o4⟩
              · exact i3 x e
        · rw [if_neg d] at h; cases h
theorem zLaw_ok {w : Nat → Int32} {n : Nat} {L : List ZCLS} (hn : n ≤ 400) (h : zLaw w n = .inr L) : okL L := by
  unfold zLaw at h
  by_cases c : skp w n 0 = n
  · rw [if_pos c] at h
    cases h
    exact ⟨Nat.zero_le _, Nat.zero_le _, fun m hm => absurd hm (Nat.not_lt_zero _)⟩
  · rw [if_neg c] at h
    obtain ⟨h1, h2, h3⟩ := zLw_ok 16 _ L (skp_le (Nat.zero_le n)) h
    refine ⟨h1, by omega, fun m hm => ?_⟩
    have e : lcl L m = L[m] := by unfold lcl; rw [List.getElem?_eq_getElem hm]; rfl
    rw [e]
    exact h3 _ (List.getElem_mem hm)
section ZDk
variable {E : ZE} {l : Launch} {K : ZG} {w m n1 m1 : Nat} {S S' : ZS9} {X X' : ZG}
theorem zgr.si {T : List Nat} {t i k : Nat} {x : Int32} (h : zgr T X X') (ht : t ∈ T) (h4 : t < 4096) (hi : zcn X t ≤ i) : zgr T X (zsi X' (zp t i) k x) := h.ch ht h4 hi rfl rfl (fun q hq => ⟨by funext j; exact iv_n hq, rfl⟩)
theorem zgr.sr {T : List Nat} {t i k x : Nat} (h : zgr T X X') (ht : t ∈ T) (h4 : t < 4096) (hi : zcn X t ≤ i) : zgr T X (zsr X' (zp t i) k x) := h.ch ht h4 hi rfl rfl (fun q hq => ⟨rfl, by funext j; rw [zrv_sr, if_neg (fun z => hq z.1)]⟩)
theorem zgr.mono {T T' : List Nat} (h : zgr T X X') (hT : ∀ t, t ∈ T → t ∈ T') (hG : ∀ t, t ∈ T' → t ∈ GT) : zgr T' X X' := ⟨h.1.mono hT, hG, h.2.2⟩
theorem zgr.nw2 {T : List Nat} {t n : Nat} (h : zgr T X X') (ht : t ∈ T) (h4 : t < 4096) : zgr T X (znw X' t n) := by
  refine (h.trans (zgr.nw (h.2.1 t ht) h4)).mono (fun u hu => ?_) h.2.1
  rcases List.mem_append.mp hu with h1 | h1
  · exact h1
  · rw [List.mem_singleton.mp h1]; exact ht
theorem zob_nw {t n a c : Nat} (h : zob X a c) (ht : t < 4096) : zob (znw X t n) a c := ⟨(zal_nw ht _).mpr (Or.inl h.1), h.2⟩
theorem c_initL {X0 : ZG} {T : List Nat} {i q2 : Nat} {x : Int32} (g : zgr T X0 X) (hT : 128 ∈ T) (hT2 : 1036 ∈ T) (hT3 : 352 ∈ T) (hi : zcn X0 128 ≤ i) (ho : zob X (zp 128 i) 4) : zMet E l mX3_init 2 17 [.ref (zp 128 i), .int x, .ref q2] X (zVx (fun X' => zgr T X0 X' ∧ zob X' (zp 128 i) 4 ∧ ziv X' (zp 128 i) 0 = x ∧ zrv X' (zp 128 i) 3 = q2)) := by
  refine z_meth (by decide) (Nat.le_of_ble_eq_true rfl) (by simp [Value.category]) (wpt_X3_init_0 ?_); unfold wp_X3_init_0
  refine ⟨ho.1, by decide, ho, fun G1 e1 => ?_⟩
  have g1 : zgr T X0 G1 := by rw [e1]; exact g.si hT (by omega) hi
  have o1 : zob G1 (zp 128 i) 4 := by rw [e1]; exact ho
  refine ⟨o1, fun G2 e2 => ?_⟩
  have g2 : zgr T X0 G2 := by rw [e2]; exact g1.si hT (by omega) hi
  have o2 : zob G2 (zp 128 i) 4 := by rw [e2]; exact o1
  refine ⟨by decide, by decide, by decide, 1036, by decide, by decide, by decide, fun q4 e4 G5 e5 k6 e6 => ?_⟩
  have g5 : zgr T X0 G5 := by rw [e5]; exact g2.nw2 hT2 (by omega)
  have o5 : zob G5 (zp 128 i) 4 := by rw [e5]; exact zob_nw o2 (by omega)
  refine ⟨o5, fun G7 e7 => ?_⟩
  have g7 : zgr T X0 G7 := by rw [e7]; exact g5.sr hT (by omega) hi
  have o7 : zob G7 (zp 128 i) 4 := by rw [e7]; exact o5
  refine ⟨by rw [e6]; decide, 352, by decide, by decide, by decide, fun q9 e9 G10 e10 k11 e11 => ?_⟩
  have g10 : zgr T X0 G10 := by rw [e10]; exact g7.nw2 hT3 (by omega)
  have o10 : zob G10 (zp 128 i) 4 := by rw [e10]; exact zob_nw o7 (by omega)
  have a10 : zal G10 q9 := by rw [e10, e9]; exact (zal_nw (by omega) _).mpr (Or.inr rfl)
  have v10 : zob G10 (zp 352 (zcn G7 352)) 11 := by
    rw [← e9]
    exact ⟨a10, by rw [e9, zp_mod (by omega)]; omega, by rw [e9, zp_mod (by omega)]⟩
  rw [e9]
  refine ⟨v10.1, cVx (c_initV v10) (by decide) (Nat.zero_le _) (fun G12 h12 => ?_)⟩
  obtain ⟨i12, r12, -⟩ := h12
  have g12 : zgr T X0 G12 := g10.ch hT3 (by omega) (g7.1.1 352) i12.1 i12.2.1 i12.2.2
  have o12 : zob G12 (zp 128 i) 4 := ⟨by unfold zal; rw [i12.1]; exact o10.1, o10.2⟩
  refine ⟨o12, fun G14 e14 => ?_⟩
  have g14 : zgr T X0 G14 := by rw [e14]; exact g12.sr hT (by omega) hi
  have o14 : zob G14 (zp 128 i) 4 := by rw [e14]; exact o12
  refine ⟨o14, fun G15 e15 => ?_⟩
  have g15 : zgr T X0 G15 := by rw [e15]; exact g14.si hT (by omega) hi
  have o15 : zob G15 (zp 128 i) 4 := by rw [e15]; exact o14
  refine ⟨o15, fun G16 e16 => ?_⟩
  have g16 : zgr T X0 G16 := by rw [e16]; exact g15.si hT (by omega) hi
  have o16 : zob G16 (zp 128 i) 4 := by rw [e16]; exact o15
  refine ⟨o16, fun G17 e17 => ?_⟩
  have g17 : zgr T X0 G17 := by rw [e17]; exact g16.si hT (by omega) hi
  have o17 : zob G17 (zp 128 i) 4 := by rw [e17]; exact o16
  refine ⟨o17, fun G18 e18 => ?_⟩
  have g18 : zgr T X0 G18 := by rw [e18]; exact g17.si hT (by omega) hi
  have o18 : zob G18 (zp 128 i) 4 := by rw [e18]; exact o17
  refine ⟨o18, fun G19 e19 => ⟨rfl, by rw [e19]; exact g18.sr hT (by omega) hi, by rw [e19]; exact o18, ?_, ?_⟩⟩
  · rw [e19, ziv_sr, e18, iv_s]
  · rw [e19, zrv_sr, if_pos ⟨rfl, rfl⟩]
/-- judging by a law that wasn't there -/
theorem VQ.gr {X0 : ZG} {T : List Nat} {i n Fa y : Nat} {v F : Nat → Int32} {R : Nat ⊕ List ZCLS} (h : VQ X X' (zp 128 i) n v F Fa R y) (g : zgr T X0 X) (hT : 128 ∈ T) (hT3 : 352 ∈ T) (hi : zcn X0 128 ≤ i) : zgr T X0 X' := by
  obtain ⟨e1, h2, h3, h4, h5, -⟩ := h
  have cn : ∀ t, zcn X t ≤ zcn X' t := fun t => by
    by_cases c : t = 352
    · rw [c, h3]; omega
    · rw [h2 t c]; exact Nat.le_refl _
  have hm : ∀ t, t ∉ T → t ≠ 128 ∧ t ≠ 352 := fun t ht => ⟨fun e => ht (e ▸ hT), fun e => ht (e ▸ hT3)⟩
  refine ⟨⟨fun t => Nat.le_trans (g.1.1 t) (cn t), fun t ht => by rw [h2 t (hm t ht).2, g.1.2.1 t ht], fun q hq => ?_⟩, g.2.1, fun t j ht hj => ?_⟩
  · have n1 : q ≠ zp 128 i := fun e => (hm _ hq).1 (by rw [e, zp_mod (by omega)])
    have n2 : q ≠ y := fun e => (hm _ hq).2 (by rw [e, e1, zp_mod (by omega)])
    obtain ⟨a, b, c⟩ := g.1.2.2 q hq
    exact ⟨(h4 q n2).trans a, (h5 q n1 n2).1.trans b, (h5 q n1 n2).2.trans c⟩
  · have n1 : zp t j ≠ zp 128 i := fun e => by
      obtain ⟨a, b⟩ := zp_inj ht (by omega) e
      rw [a] at hj; omega
    have n2 : zp t j ≠ y := fun e => by
      rw [e1] at e
      obtain ⟨a, b⟩ := zp_inj ht (by omega) e
      rw [a] at hj
      have := g.1.1 352
      omega
    obtain ⟨a, b, c⟩ := g.2.2 t j ht hj
    exact ⟨(h4 _ n2).trans a, (h5 _ n1 n2).1.trans b, (h5 _ n1 n2).2.trans c⟩
theorem SI.law (h : SI S) (hS : ∀ t k, sc t k → ¬ (t = 416 ∧ k = 19) → S' t k = S t k) (hl : S' 416 19 = Int32.ofNat (nL S') ∧ nL S' ≤ 12) (ho : S' 416 42 = S 416 42) (hB : nB S ≤ 1000) : SI S' := by
  obtain ⟨⟨⟨⟨t1, t2⟩, t3⟩, l1, o1, b1, q1, n2⟩, sb, sd, td, sn⟩ := h
  have k : ∀ t k, sc t k ∧ ¬ (t = 416 ∧ k = 19) → S' t k = S t k := fun t k hc => hS t k hc.1 hc.2
  have eT : nTp S' = nTp S := by unfold nTp; rw [k _ _ (by unfold sc; omega)]
  have eP : nP S' = nP S := by unfold nP; rw [k _ _ (by unfold sc; omega)]
  have eA : nA S' = nA S := by unfold nA; rw [k _ _ (by unfold sc; omega)]
  have eB : nB S' = nB S := by unfold nB; rw [k _ _ (by unfold sc; omega)]
  refine ⟨?_, fun p hp => ?_, sd.cg (fun j => k _ _ (by unfold sc; omega)) (by omega) (by omega), ?_, fun a ha => ?_⟩
  · unfold SK TB
    rw [eT, eP, k 416 3 (by unfold sc; omega), ho]
    exact ⟨⟨⟨t1, t2⟩, fun j hj => by rw [k _ _ (by unfold sc; omega)]; exact t3 j hj⟩, hl, o1, fun p hp => by rw [k _ _ (by unfold sc; omega)]; exact b1 p hp, fun p q a b c => by rw [k _ _ (by unfold sc; omega)]; exact q1 p q a b c, fun p hp => by rw [k _ _ (by unfold sc; omega)]; exact n2 p hp⟩
  · rw [eP] at hp
    rw [k 416 1 (by unfold sc; omega), k 1129 _ (by unfold sc; omega)]; exact sb p hp
  · unfold TD; rw [k 416 1 (by unfold sc; omega)]; exact td
  · rw [eA] at ha
    rw [k 1165 _ (by unfold sc; omega), k 1165 _ (by unfold sc; omega)]; exact sn a ha
theorem PNa.cg2 (h : PNa S X) (hS : ∀ t k, (t = 416 ∧ k = 34) ∨ t = 1132 ∨ t = 2133 → S' t k = S t k) : PNa S' X := by
  have e : nP S' = nP S := by unfold nP; rw [hS _ _ (by omega)]
  intro p hp
  rw [e] at hp
  have := h p hp
  unfold NM at *
  rw [hS 2133 _ (by omega)]
  rcases this with h | ⟨h0, i, i1, i2, j, j1, j2, j3, j4⟩
  · exact Or.inl h
  · exact Or.inr ⟨h0, i, i1, i2, j, j1, j2, j3, fun k hk => by rw [hS 1132 _ (by omega)]; exact j4 k hk⟩
theorem zsl_no {j t k : Nat} (h : t < 1110 ∨ 1118 < t) : ¬ zsl j t k := by unfold zsl; omega
theorem i_nn0 {a x : Int32} (h : ¬ a < 0) (h2 : ¬ x < a) : ¬ x < 0 := fun z => by
  rw [i_tl] at h h2 z
  omega
theorem PO.law {i : Nat} {f : Nat → Nat} (h : PO K S m n1 m1 X) (hS : ∀ t k, ¬ (t = 416 ∧ k = 19) → ¬ zsl (nL S) t k → S' t k = S t k) (h19 : S' 416 19 = S 416 19 + 1) (hL : nL S < 12) (hf : zfr [1, 3073] X X') (hb : ∀ j, j < nL S → LW9 S X j (f j)) (hl : zAL X' 1 (nL S + 1) (fun j => if j = nL S then zp 128 i else f j)) (hn : LW9 S' X' (nL S) (zp 128 i)) (h10 : ¬ S' 1110 (nL S) < 0) : PO K S' m n1 m1 X' := by
  have no : ∀ t, t ≠ 1 ∧ t ≠ 3073 → t ∉ [1, 3073] := fun t h => by simp [h]
  have ks : ∀ t k, ¬ (t = 416 ∧ k = 19) → (t < 1110 ∨ 1118 < t) → S' t k = S t k := fun t k h1 h2 => hS t k h1 (zsl_no h2)
  obtain ⟨p1, p2, p3, p4, p5, p6, p7, p8⟩ := h
  have hB := p6.ri.2.2.1.2
  have e19 : S' 416 19 = Int32.ofNat (nL S + 1) := by rw [h19, p8.1.2.1.1, n_p1]
  have eL : nL S' = nL S + 1 := by
    show (S' 416 19).toNatClampNeg = _
    rw [e19, n_nn (by omega)]
  have e42 : S' 416 42 = S 416 42 := ks _ _ (by omega) (by omega)
  have nl' : NL9 S' X' := by
    obtain ⟨_, _, _, nl⟩ := p3
    obtain ⟨nl1, nl2⟩ := nl.fr hf (no _ (by omega)) (no _ (by omega))
    refine ⟨nl1, fun j hj => ?_⟩
    by_cases c : j = nL S
    · rw [c]; exact h10
    · rw [hS 1110 j (by omega) (by unfold zsl; omega)]; exact nl2 j (by omega)
  refine ⟨p1.fr hf (no _ (by omega)), (p2.fr hf (no _ (by omega)) (no _ (by omega))).cg (fun t k hc => ks t k (by unfold tk at hc; omega) (by unfold tk at hc; omega)), ⟨_, by rw [eL]; exact hl, fun j hj => ?_, nl'⟩, ?_, p5.fr hf (no _ (by omega)) (no _ (by omega)) (by decide), ?_, (p7.fr hf (no _ (by omega)) (no _ (by omega)) (no _ (by omega)) (no _ (by omega)) (no _ (by omega)) (no _ (by omega)) (no _ (by omega)) (no _ (by omega)) (no _ (by omega))).cg2 (fun t k hc => ks t k (by omega) (by omega)), ?_⟩
  · rw [eL] at hj
    show LW9 S' X' j (if j = nL S then zp 128 i else f j)
    by_cases c : j = nL S
    · rw [if_pos c, c]; exact hn
    · rw [if_neg c]
      obtain ⟨i, i1, i2, i3, i4, x, x1, x2, tv, x3, L, x4, ⟨z1, z2, z3, z4, z5⟩, x6⟩ := hb j (by omega)
      have kz : ∀ t k, ¬ (t = 416 ∧ k = 19) ∧ ¬ zsl (nL S) t k → S' t k = S t k := fun t k h => hS t k h.1 h.2
      have sl : ∀ t k, ((t = 1110 ∨ t = 1111) ∧ k = j) ∨ ((t = 1112 ∨ t = 1113 ∨ t = 1114 ∨ t = 1115) ∧ k < 16 * j + 16) ∨ ((t = 1116 ∨ t = 1117 ∨ t = 1118) ∧ k < 400 * j + 400) → S' t k = S t k := fun t k h => kz t k ⟨by omega, by unfold zsl; omega⟩
      refine ⟨i, Nat.lt_of_lt_of_le i1 (hf.1 _), i2, ?_, ?_, x, Nat.lt_of_lt_of_le x1 (hf.1 _), ?_, tv, ?_, L, ?_, ⟨?_, z2, z3, fun m hm => ?_, fun i hi => ?_⟩, x6⟩
      · rw [i2, hf.iv (by omega) (no _ (by omega)), ← i2, sl _ _ (by omega)]; exact i3
      · rw [i2, hf.iv (by omega) (no _ (by omega)), ← i2, sl _ _ (by omega)]; exact i4
      · rw [i2, hf.rv (by omega) (no _ (by omega)), ← i2]; exact x2
      · unfold TVl; rw [hf.ln (by omega) (no _ (by omega)), hf.iv (by omega) (no _ (by omega))]; exact x3
      · rw [hf.ln (by omega) (no _ (by omega))]; exact x4
      · rw [sl _ _ (by omega)]; exact z1
      · have := z4 m hm
        unfold zrow at *
        rw [sl 1112 _ (by omega), sl 1113 _ (by omega), sl 1114 _ (by omega), sl 1115 _ (by omega)]
        exact this
      · rw [sl 1116 _ (by omega), sl 1117 _ (by omega), sl 1118 _ (by omega)]
        exact z5 i hi
  · exact (p4.fr hf (no _ (by omega)) (no _ (by omega)) (no _ (by omega))).cg2 (fun t k hc => ks t k (by omega) (by omega))
  · rw [e42]
    have o := p6
    exact o.mk2 hf (fun t ht => no t (by omega)) (o.ri.cg (fun t k hc => ks t k (by omega) (by omega))) (o.rj.cg (fun t k hc => ks t k (by omega) (by omega))) ((o.cp.cg (ks _ _ (by omega) (by omega)) (fun t k hc => ks t k (by omega) (by omega))).fr hf (no _ (by omega)) (no _ (by omega)) (no _ (by omega)) (no _ (by omega)) (no _ (by omega)) (no _ (by omega)) (no _ (by omega))) ((o.cd.cg (ks _ _ (by omega) (by omega)) (fun t k hc => ks t k (by omega) (by omega))).fr hf (no _ (by omega)) (no _ (by omega)) (no _ (by omega)) (no _ (by omega)) (no _ (by omega)) (no _ (by omega))) (fun t k hc => ks t k (by unfold oc at hc; omega) (by unfold oc at hc; omega))
  · exact p8.law (fun t k hc hne => ks t k hne (by unfold sc at hc; omega)) (by rw [eL, e19]; exact ⟨rfl, by omega⟩) e42 (by omega)
end ZDk
