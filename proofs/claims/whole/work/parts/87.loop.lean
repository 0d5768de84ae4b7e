/-! the law's loop: what holds at its head -/
/-- the tags that the law and the reference write -/
def RT : List Nat := 416 :: 1602 :: 2560 :: (List.range' 1100 100 ++ List.range' 2100 100)
theorem RT_of {q : Nat} (h : zrr q = true) : q % 4096 ∈ RT ∧ q < 4096 := by
  have h1 : q = 416 ∨ (1100 ≤ q ∧ q ≤ 1199) ∨ q = 1602 ∨ (2100 ≤ q ∧ q ≤ 2199) := by
    unfold zrr at h
    simp only [Bool.or_eq_true, Bool.and_eq_true, beq_iff_eq, Nat.ble_eq] at h
    omega
  have hq : q < 4096 := by omega
  refine ⟨?_, hq⟩
  rw [Nat.mod_eq_of_lt hq]
  unfold RT
  simp only [List.mem_cons, List.mem_append, List.mem_range'_1]
  omega
theorem RT_CT : ∀ t, t ∈ [3600, 3601, 3602, 3603, 4095] ++ CT → t ∉ RT := by decide +kernel
theorem RT_st : ∀ n, n < 32 → 3840 + n ∉ RT ∧ 3840 + n ∉ CT := by decide +kernel
theorem rtab_CT : ∀ x, x ∈ rtab → x.2.1 ∉ CT ∧ x.2.1 < 4096 ∧ x.2.1 ≠ 2560 ∧ x.1 < 83 := by decide +kernel
/-- the store says the reference's numbers -/
def zeq (G : ZG) (S : ZS9) : Prop := ∀ q j, zrr q = true → ziv G q j = S q j
theorem zeq.eq {G : ZG} {S : ZS9} (h : zeq G S) : zput G S = G := by
  obtain ⟨g1, g2, g3, g4⟩ := G
  unfold zput
  congr 3
  funext q j
  by_cases c : zrr q = true
  · rw [if_pos c]; exact (h q j c).symm
  · rw [if_neg c]
theorem zeq.put {G : ZG} {S : ZS9} : zeq (zput G S) S := fun q j h => if_pos h
theorem zeq.fr {T : List Nat} {G G1 : ZG} {S : ZS9} (h : zeq G S) (hf : zfr T G G1) (hT : ∀ q, zrr q = true → q % 4096 ∉ T) : zeq G1 S := fun q j hq => by
  rw [(hf.2.2 q (hT q hq)).2.1]; exact h q j hq
theorem zrr_CT : ∀ q, zrr q = true → q % 4096 ∉ CT := fun q h hc => RT_CT _ (List.mem_append_right _ hc) (RT_of h).1
theorem zrr_out : ∀ q, zrr q = true → q % 4096 ∉ [2560] := fun q h hc => by
  have h1 := (RT_of h).2
  rw [Nat.mod_eq_of_lt h1] at hc
  rw [List.mem_singleton.mp hc] at h
  exact absurd h (by decide)
theorem zput_fr {G : ZG} {S : ZS9} : zfr RT G (zput G S) := by
  refine ⟨fun _ => Nat.le_refl _, fun _ _ => rfl, fun q hq => ⟨rfl, ?_, rfl⟩⟩
  have hz : zrr q = false := by
    cases h : zrr q with
    | false => rfl
    | true => exact absurd (RT_of h).1 hq
  funext j
  exact zput_no hz j
section ZLoop
variable {E : ZE} {l : Launch} {K X X' G G1 G2 : ZG} {m n1 m1 m' n1' m1' st L : Nat} {S S' S1 : ZS9} {xv : Nat → Int32}
/-- a new time to look back to -/
theorem PO.rek {T : List Nat} (h : PO K S m n1 m1 X) (hf : zfr T X X') (hT : ∀ t, t ∈ T → t ∈ RT) : PO X' S m n1 m1 X' := by
  have no : ∀ t, t ∈ [3600, 3601, 3602, 3603, 4095] ++ CT → t ∉ T := fun t h1 h2 => RT_CT t h1 (hT t h2)
  have ns : ∀ n, n < 32 → 3840 + n ∉ T := fun n hn h2 => (RT_st n hn).1 (hT _ h2)
  obtain ⟨p1, p2, p3, p4, p5, p6, p7, p8⟩ := h
  refine ⟨p1.fr hf (no _ (by decide)), p2.fr hf (no _ (by decide)) (no _ (by decide)), p3.fr hf (no _ (by decide)) (no _ (by decide)) (no _ (by decide)) (no _ (by decide)) (no _ (by decide)), p4.fr hf (no _ (by decide)) (no _ (by decide)) (no _ (by decide)), ?_, ?_, p7.fr hf (no _ (by decide)) (no _ (by decide)) (no _ (by decide)) (no _ (by decide)) (no _ (by decide)) (no _ (by decide)) (no _ (by decide)) (no _ (by decide)) (no _ (by decide)), p8⟩
  · have hs : ∀ n, n < 32 → zstr X' n := fun n hn => zstr_fr (p5.str hn) hf hn (ns n hn)
    unfold PWm at *
    rw [hf.ln (by omega) (no 3600 (by decide)), hf.iv (by omega) (no 3600 (by decide)), hf.ln (by omega) (no 3601 (by decide)), hf.iv (by omega) (no 3601 (by decide))]
    exact ⟨⟨hf.rd p5.1.1, p5.1.2⟩, hf.rd p5.2.1, p5.2.2.1, p5.2.2.2.1, zfr.rf, hs⟩
  · have o := p6
    have nh : ∀ t, t = 224 ∨ t = 32 ∨ t = 4 ∨ t = 3076 ∨ t = 5 ∨ t = 3077 ∨ t = 64 ∨ t = 352 ∨ t = 320 ∨ t = 3602 ∨ t = 4095 → t ∉ T := fun t ht => by
      rcases ht with rfl | rfl | rfl | rfl | rfl | rfl | rfl | rfl | rfl | rfl | rfl <;> exact no _ (by decide)
    exact o.mk2 hf nh o.ri o.rj (o.cp.fr hf (no _ (by decide)) (no _ (by decide)) (no _ (by decide)) (no _ (by decide)) (no _ (by decide)) (no _ (by decide)) (no _ (by decide))) (o.cd.fr hf (no _ (by decide)) (no _ (by decide)) (no _ (by decide)) (no _ (by decide)) (no _ (by decide)) (no _ (by decide))) (fun _ _ _ => rfl)
/-- booklets that aren't printed are nothing to the class -/
theorem PO.book (h : PO K S m n1 m1 X) (hS : ∀ t k, ¬ ((t = 1167 ∨ t = 1168 ∨ t = 1169 ∨ t = 1170) ∧ nB S ≤ k) → S' t k = S t k) : PO K S' m n1 m1 X := by
  have ks : ∀ t k, (t < 1167 ∨ 1170 < t) → S' t k = S t k := fun t k h => hS t k (by omega)
  obtain ⟨p1, p2, p3, p4, p5, p6, p7, p8⟩ := h
  have hB := p6.ri.2.2.1.2
  have eB : nB S' = nB S := by unfold nB; rw [ks _ _ (by omega)]
  have eA : nA S' = nA S := by unfold nA; rw [ks _ _ (by omega)]
  have e42 : S' 416 42 = S 416 42 := ks _ _ (by omega)
  refine ⟨p1, p2.cg (fun t k hc => ks t k (by unfold tk at hc; omega)), p3.cg2 (SI_nL p8) (fun t k hc => ks t k (by omega)), p4.cg2 (fun t k hc => ks t k (by omega)), p5, ?_, p7.cg2 (fun t k hc => ks t k (by omega)), p8.cg (fun t k hc => ks t k (by unfold sc at hc; omega)) (by rw [e42]; exact p8.1.2.2.1) (by omega)⟩
  rw [e42]
  obtain ⟨o1, o2, o3, o4, o5, o6, o7, ⟨c0, ⟨a1, a2, a3⟩, ⟨b1, b2, b3, b4, b5⟩⟩⟩ := p6
  obtain ⟨c1, c2, c3, c4, c5, c6, c7⟩ := c0
  refine ⟨o1, o2.cg (fun t k hc => ks t k (by omega)), o3.cg (fun t k hc => ks t k (by omega)), o4.cg (ks _ _ (by omega)) (fun t k hc => ks t k (by omega)), o5.cg (ks _ _ (by omega)) (fun t k hc => ks t k (by omega)), o6.cg (fun k hc => ks _ k (by omega)), o7, ⟨c1, c2, c3, c4, c5, c6, fun k h1 h2 => ?_⟩, ⟨by rw [eA]; exact a1, by rw [eA]; exact a2, fun a ha => ?_⟩, ⟨b1, b2, by rw [eB]; exact b3, b4, fun b hb k hk => ?_⟩⟩
  · rw [c7 k h1 h2]
    unfold oFld
    rw [ks 416 71 (by omega), ks 416 1 (by omega), ks 416 43 (by omega), ks 416 72 (by omega), ks 416 73 (by omega), ks 416 74 (by omega), ks 416 75 (by omega), ks 416 76 (by omega)]
  · rw [eA] at ha
    exact (a3 a ha).cg (fun t k ht => ks t k (by omega))
  · rw [eB] at hb
    rw [b5 b hb k hk, hS _ _ (by omega)]
theorem PO.simB (h : PO K S m n1 m1 X) (hs : zsimB S S') : PO K S' m n1 m1 X := by
  obtain ⟨S2, a, b⟩ : ∃ S2 : ZS9, (∀ t k, ((t = 1167 ∨ t = 1168 ∨ t = 1169 ∨ t = 1170) ∧ nB S ≤ k) → S2 t k = S t k) ∧ (∀ t k, ¬ ((t = 1167 ∨ t = 1168 ∨ t = 1169 ∨ t = 1170) ∧ nB S ≤ k) → S2 t k = S' t k) := ⟨fun t k => if (t = 1167 ∨ t = 1168 ∨ t = 1169 ∨ t = 1170) ∧ nB S ≤ k then S t k else S' t k, fun t k h => if_pos h, fun t k h => if_neg h⟩
  have h2 : PO K S2 m n1 m1 X := h.sim (fun t k hc => by
    by_cases c : (t = 1167 ∨ t = 1168 ∨ t = 1169 ∨ t = 1170) ∧ nB S ≤ k
    · exact a t k c
    · rw [b t k c]; exact hs t k hc c)
  have eB : nB S2 = nB S := by
    unfold nB
    rw [b _ _ (by omega), hs _ _ (sim_no (by omega)) (by omega)]
  exact h2.book (fun t k hc => (b t k (by rw [eB] at hc; exact hc)).symm)
theorem SGA.simB (h : SGA S) (hs : zsimB S S') : SGA S' := ⟨h.1.cg (fun k => hs _ _ (sim_no (by omega)) (by omega)) (by unfold nA; rw [hs _ _ (sim_no (by omega)) (by omega)]), h.2.cg (fun t k hc => hs _ _ (sim_no (by omega)) (by omega))⟩
/-- what the law has beside the class: the reference's things, the answer's place, the script -/
def LC (st L : Nat) (xv : Nat → Int32) (G : ZG) : Prop := RK G ∧ (zar G zout 3 ∧ zln G zout = 1) ∧ (zrd G (zp st 0) .int ∧ zln G (zp st 0) = L ∧ ziv G (zp st 0) = xv)
def LI0 (st L : Nat) (xv : Nat → Int32) (G : ZG) (S : ZS9) (m n1 m1 : Nat) : Prop := zeq G S ∧ PO G S m n1 m1 G ∧ SGA S ∧ LC st L xv G
def zst4 (st : Nat) : Prop := st = 3600 ∨ st = 3601 ∨ st = 3602 ∨ st = 3603
theorem zst4.no (h : zst4 st) : st ∉ CT ∧ st ∉ RT ∧ st < 4096 := by
  rcases h with rfl | rfl | rfl | rfl <;> exact ⟨by decide, RT_CT _ (by decide), by omega⟩
theorem LC.cls (hst : zst4 st) (h : LC st L xv G) (hf : zfr CT G G1) : LC st L xv G1 := by
  obtain ⟨⟨r1, r2, r3⟩, ⟨o1, o2⟩, ⟨s1, s2, s3⟩⟩ := h
  obtain ⟨n1, -, n3⟩ := hst.no
  refine ⟨⟨hf.ob r1, fun x hx => ?_, fun n hn => zstr_fr (r3 n hn) hf hn (RT_st n hn).2⟩, ⟨hf.ar o1, by rw [hf.ln (by omega) (by decide)]; exact o2⟩, ⟨hf.rd s1, by rw [hf.ln n3 n1]; exact s2, by rw [hf.iv n3 n1]; exact s3⟩⟩
  obtain ⟨a, b, c⟩ := r2 x hx
  obtain ⟨t1, t2, -⟩ := rtab_CT x hx
  exact ⟨by rw [hf.rv (by omega) (by decide)]; exact a, hf.ar b, by rw [hf.ln t2 t1]; exact c⟩
theorem LC.out {v : Int32} (hst : zst4 st) (h : LC st L xv G) : LC st L xv (zsi G zout 0 v) := by
  obtain ⟨⟨r1, r2, r3⟩, ⟨o1, o2⟩, ⟨s1, s2, s3⟩⟩ := h
  have hf : zfr [2560] G (zsi G zout 0 v) := zfr.si (by rw [zp_mod (by omega)]; simp)
  have n1 : st ∉ [2560] := by rcases hst with rfl | rfl | rfl | rfl <;> decide
  exact ⟨⟨hf.ob r1, r2, fun n hn => zstr_fr (r3 n hn) hf hn (by simp; omega)⟩, ⟨o1, o2⟩, ⟨hf.rd s1, s2, by rw [hf.iv hst.no.2.2 n1]; exact s3⟩⟩
theorem LC.ref (hst : zst4 st) (h : LC st L xv G) : LC st L xv (zput G S) := by
  obtain ⟨r, ⟨o1, o2⟩, ⟨s1, s2, s3⟩⟩ := h
  exact ⟨r.put, ⟨o1, o2⟩, ⟨s1, s2, by rw [(zput_fr (S := S)).iv hst.no.2.2 hst.no.2.1]; exact s3⟩⟩
/-- behind the class's call and the wrapper's end -/
def LA (st L : Nat) (xv : Nat → Int32) (G : ZG) (S S1 : ZS9) (m n1 m1 : Nat) (G2 : ZG) : Prop := zeq G2 S ∧ LC st L xv G2 ∧ ∃ G1, PO G S1 m n1 m1 G1 ∧ zfr RT G1 G2
theorem LI0.cls (hst : zst4 st) (h : LI0 st L xv G S m n1 m1) (hp : PO G S1 m' n1' m1' G1) : LA st L xv G S S1 m' n1' m1' G1 := by
  have hf := hp.wm.2.2.2.2.1
  exact ⟨h.1.fr hf zrr_CT, h.2.2.2.cls hst hf, G1, hp, zfr.rf⟩
theorem LA.out {v : Int32} (hst : zst4 st) (h : LA st L xv G S S1 m n1 m1 G2) : LA st L xv G S S1 m n1 m1 (zsi G2 zout 0 v) := by
  obtain ⟨a, b, G1, c, d⟩ := h
  have hf : zfr [2560] G2 (zsi G2 zout 0 v) := zfr.si (by rw [zp_mod (by omega)]; simp)
  exact ⟨a.fr hf zrr_out, b.out hst, G1, c, d.trans (hf.mono (by decide +kernel))⟩
theorem LA.fin (hst : zst4 st) (h : LA st L xv G S S1 m n1 m1 G2) (hs : ∀ Y, PO G S1 m n1 m1 Y → PO G S' m n1 m1 Y) (hg : SGA S') : LI0 st L xv (zput G2 S') S' m n1 m1 := by
  obtain ⟨a, b, G1, c, d⟩ := h
  exact ⟨zeq.put, (hs _ c).rek (d.trans zput_fr) (fun _ h => h), hg, b.ref hst⟩
/-- what a wrapper gives back -/
def wO (o : ZO) (P : ZS9 → ZG → Prop) : ZQ := fun r G' => r = .inl (some (.int o.1)) ∧ ((¬ o.1 = 0 ∧ P o.2.2 G') ∨ (o.1 = 0 ∧ ∃ G1, P o.2.2 G1 ∧ G' = zsi G1 zout 0 o.2.1))
def wN (o : ZO) (P : ZS9 → ZG → Prop) : ZQ := fun r G' => r = .inl (some (.int o.1)) ∧ P o.2.2 G'
section ZExc
variable {o : ZO} {P : ZS9 → ZG → Prop} {A B C D Y : String} {f : Int32 → Option Value}
theorem ex1 (hc : o.1 = 0 ∨ o.1 = 1) (h : cO f (fun _ => A) o P (.inr Y) G) : Y = A ∧ wO o P (.inl (some (.int 1))) G := by
  obtain ⟨⟨h0, h1⟩ | ⟨h0, h1⟩, hP⟩ := h
  · cases h1
  · cases h1
    have e := hc.resolve_left h0
    exact ⟨rfl, by rw [e], Or.inl ⟨h0, hP⟩⟩
theorem ex2 (hc : o.1 = 0 ∨ o.1 = 1 ∨ o.1 = 2) (h : cO f (xs A B D) o P (.inr Y) G) : (Y = A ∧ wO o P (.inl (some (.int 1))) G) ∨ (Y = B ∧ wO o P (.inl (some (.int 2))) G) := by
  obtain ⟨⟨h0, h1⟩ | ⟨h0, h1⟩, hP⟩ := h
  · cases h1
  · cases h1
    rcases hc.resolve_left h0 with e | e
    · exact Or.inl ⟨by rw [e]; rfl, by rw [e], Or.inl ⟨h0, hP⟩⟩
    · exact Or.inr ⟨by rw [e]; rfl, by rw [e], Or.inl ⟨h0, hP⟩⟩
theorem ex2' (hc : o.1 = 0 ∨ o.1 = 1 ∨ o.1 = 2) (h : cO f (xs A B B) o P (.inr Y) G) : (Y = A ∧ wO o P (.inl (some (.int 1))) G) ∨ (Y = B ∧ wO o P (.inl (some (.int 2))) G) := ex2 hc h
theorem ex3 (hc : o.1 = 0 ∨ o.1 = 1 ∨ o.1 = 2 ∨ o.1 = 3) (h : cO f (xs A B C) o P (.inr Y) G) : (Y = A ∧ wO o P (.inl (some (.int 1))) G) ∨ (Y = B ∧ wO o P (.inl (some (.int 2))) G) ∨ (Y = C ∧ wO o P (.inl (some (.int 3))) G) := by
  obtain ⟨⟨h0, h1⟩ | ⟨h0, h1⟩, hP⟩ := h
  · cases h1
  · cases h1
    rcases hc.resolve_left h0 with e | e | e
    · exact Or.inl ⟨by rw [e]; rfl, by rw [e], Or.inl ⟨h0, hP⟩⟩
    · exact Or.inr (Or.inl ⟨by rw [e]; rfl, by rw [e], Or.inl ⟨h0, hP⟩⟩)
    · exact Or.inr (Or.inr ⟨by rw [e]; rfl, by rw [e], Or.inl ⟨h0, hP⟩⟩)
theorem exy {ex : Int32 → String} {r : Option Value} (hP : P o.2.2 G → zar G zout 3 ∧ zln G zout = 1) (h : cO cy ex o P (.inl r) G) : ∃ y, r = some (.int y) ∧ zar G zout 3 ∧ zln G zout = 1 ∧ wO o P (.inl (some (.int 0))) (zsi G zout 0 y) := by
  obtain ⟨⟨h0, h1⟩ | ⟨h0, h1⟩, h2⟩ := h
  · cases h1
    exact ⟨_, rfl, (hP h2).1, (hP h2).2, by rw [h0], Or.inr ⟨h0, G, h2, rfl⟩⟩
  · cases h1
theorem ey1 (hc : o.1 = 0 ∨ o.1 = 1) (h : cO f (fun _ => A) o P (.inr Y) G) : Y = A ∧ wN o P (.inl (some (.int 1))) G := by
  obtain ⟨⟨h0, h1⟩ | ⟨h0, h1⟩, hP⟩ := h
  · cases h1
  · cases h1
    have e := hc.resolve_left h0
    exact ⟨rfl, by rw [e], hP⟩
theorem ey2 (hc : o.1 = 0 ∨ o.1 = 1 ∨ o.1 = 2) (h : cO f (xs A B D) o P (.inr Y) G) : (Y = A ∧ wN o P (.inl (some (.int 1))) G) ∨ (Y = B ∧ wN o P (.inl (some (.int 2))) G) := by
  obtain ⟨⟨h0, h1⟩ | ⟨h0, h1⟩, hP⟩ := h
  · cases h1
  · cases h1
    rcases hc.resolve_left h0 with e | e
    · exact Or.inl ⟨by rw [e]; rfl, by rw [e], hP⟩
    · exact Or.inr ⟨by rw [e]; rfl, by rw [e], hP⟩
theorem eyn {ex : Int32 → String} {r : Option Value} (h : cO cn ex o P (.inl r) G) : r = none ∧ wN o P (.inl (some (.int 0))) G := by
  obtain ⟨⟨h0, h1⟩ | ⟨h0, h1⟩, h2⟩ := h
  · cases h1
    exact ⟨rfl, by rw [h0], h2⟩
  · cases h1
end ZExc
end ZLoop
