/-! the class when it is made -/
/-- what stood before the law began -/
def WI (G : ZG) : Prop := ((zrd G (zp 3600 0) .int ∧ zln G (zp 3600 0) = 3 ∧ ∀ k, k < 3 → ziv G (zp 3600 0) k = if k = 0 then 7 else if k = 1 then 3 else 1) ∧ zrd G (zp 3601 0) .int ∧ zln G (zp 3601 0) = 21 ∧ ∀ k, k < 21 → ziv G (zp 3601 0) k = (mrk[k]?).getD 0) ∧ CS G ∧ (zal G (zp 4095 0) ∧ zln G (zp 4095 0) = 0) ∧ ∀ n, n < 32 → zstr G n
/-- the reference's numbers at first -/
def zin0 (t k : Nat) : Int32 := if t = 416 then (if k = 8 then -1 else if k = 37 then 20 else if k = 38 then 30 else if k = 39 then 10 else if k = 40 then 2 else if k = 41 then 9 else if k = 44 then 1 else 0) else if t = 1146 then (if k < 4 then 1 else 0) else 0
def RI0 (S : ZS9) : Prop := ∀ t k, zrr t = true → S t k = zin0 t k
section ZInitB
variable {G Gi : ZG} {S : ZS9}
theorem zfr_AL {r : Nat} (h0 : zcn G r = 0) (hr : r < 4096) (hT : r ∈ CT) : zfr CT G (sAL G r) := ((zfr.nw1 h0 hr hT).trans (zfr.si (by rw [zp_mod hr]; exact hT))).trans (zfr.sr (by rw [zp_mod hr]; exact hT))
theorem zfr_s6 {q a b p1 p2 p3 : Nat} (ha : zcn G a = 0) (hb : zcn G b = 0) (hab : b ≠ a) (h1 : a < 4096) (h2 : b < 4096) (hTa : a ∈ CT) (hTb : b ∈ CT) (hq : q % 4096 ∈ CT) : zfr CT G (s6 G q a b p1 p2 p3) := by
  have e1 : zfr CT G (sAL G a) := zfr_AL ha h1 hTa
  have e2 : zfr CT (sAL G a) (zsr (sAL G a) q 3 (zp a 0)) := zfr.sr hq
  have e3 : zfr CT (zsr (sAL G a) q 3 (zp a 0)) (sAL (zsr (sAL G a) q 3 (zp a 0)) b) := zfr_AL (by
    show (if b = a then 1 else zcn G b) = 0
    rw [if_neg hab]; exact hb) h2 hTb
  have e4 : zfr CT (sAL (zsr (sAL G a) q 3 (zp a 0)) b) (s6a G q a b) := zfr.sr hq
  have e5 : zfr CT (s6a G q a b) (s6b (s6a G q a b) q) := ((((((((zfr.si hq).trans (zfr.si hq)).trans (zfr.si hq)).trans (zfr.si hq)).trans (zfr.si hq)).trans (zfr.si hq)).trans (zfr.si hq)).trans (zfr.si hq)).trans (zfr.si hq)
  exact ((((((e1.trans e2).trans e3).trans e4).trans e5).trans (zfr.sr hq)).trans (zfr.sr hq)).trans (zfr.sr hq)
theorem zfr_s3 {q2 : Nat} {x : Int32} (h1 : zcn G 1036 = 0) (h2 : zcn G 352 = 0) : zfr CT G (s3 G x q2) := by
  have a1 : zfr CT G (s3a G) := (zfr.si (by decide)).trans (zfr.si (by decide))
  have a2 : zfr CT (s3a G) (znw1 (s3a G) 1036 9) := zfr.nw1 h1 (by omega) (by decide)
  have a3 : zfr CT (znw1 (s3a G) 1036 9) (s3b G) := zfr.sr (by decide)
  have c2 : zcn (s3b G) 352 = 0 := by
    show (if 352 = 1036 then 1 else zcn G 352) = 0
    rw [if_neg (by decide)]; exact h2
  have a4 : zfr CT (s3b G) (znw1 (s3b G) 352 0) := zfr.nw1 c2 (by omega) (by decide)
  have a5 : zfr CT (znw1 (s3b G) 352 0) (s3c G) := (((((zfr.si (by decide)).trans (zfr.si (by decide))).trans (zfr.si (by decide))).trans (zfr.si (by decide))).trans (zfr.si (by decide))).trans (zfr.si (by decide))
  have a6 : zfr CT (s3c G) (s3 G x q2) := (((((zfr.sr (by decide)).trans (zfr.si (by decide))).trans (zfr.si (by decide))).trans (zfr.si (by decide))).trans (zfr.si (by decide))).trans (zfr.sr (by decide))
  exact ((((a1.trans a2).trans a3).trans a4).trans a5).trans a6
theorem sP_fr (h0 : ∀ t, t ∈ CT → zcn Gi t = 0) : zfr CT Gi (sP7 (znw1 Gi 384 0)) := by
  have a0 : zfr CT Gi (znw1 Gi 384 0) := zfr.nw1 (h0 _ (by decide)) (by omega) (by decide)
  generalize hG : znw1 Gi 384 0 = G at *
  have z : ∀ t, t ∈ CT → t ≠ 384 → zcn G t = 0 := fun t ht hne => by
    rw [← hG]
    show (if t = 384 then 1 else zcn Gi t) = 0
    rw [if_neg hne]; exact h0 t ht
  clear hG
  have a1 : zfr CT G (sP1 G) := (((zfr.nw1 (z 1034 (by decide) (by decide)) (by omega) (by decide)).trans (zfr.sr (by decide))).trans (zfr.si (by decide))).trans (zfr.si (by decide))
  have a2 : zfr CT (sP1 G) (sP2 G) := (zfr_AL (G := sP1 G) (r := 1) (z 1 (by decide) (by decide)) (by omega) (by decide)).trans (zfr.sr (by decide))
  have bn : zfr CT (sP2 G) (znw1 (sP2 G) 128 0) := zfr.nw1 (z 128 (by decide) (by decide)) (by omega) (by decide)
  have cn : zfr CT (znw1 (sP2 G) 128 0) (znw1 (znw1 (sP2 G) 128 0) 1035 0) := zfr.nw1 (z 1035 (by decide) (by decide)) (by omega) (by decide)
  have an : zfr CT (sP2 G) (sPn G) := ((bn.trans cn).trans (zfr_s3 (G := znw1 (znw1 (sP2 G) 128 0) 1035 0) (z 1036 (by decide) (by decide)) (z 352 (by decide) (by decide)))).trans (zfr.sr (by decide))
  have b3 : zfr CT (sPn G) (znw1 (sPn G) 256 0) := zfr.nw1 (z 256 (by decide) (by decide)) (by omega) (by decide)
  have c3 : zfr CT (znw1 (sPn G) 256 0) (s7 (znw1 (sPn G) 256 0)) := (zfr_AL (G := znw1 (sPn G) 256 0) (r := 2) (z 2 (by decide) (by decide)) (by omega) (by decide)).trans (zfr.sr (by decide))
  have a3 : zfr CT (sPn G) (sP3 G) := (b3.trans c3).trans (zfr.sr (by decide))
  have b4 : zfr CT (sP3 G) (znw1 (sP3 G) 96 0) := zfr.nw1 (z 96 (by decide) (by decide)) (by omega) (by decide)
  have c4 : zfr CT (znw1 (sP3 G) 96 0) (zsr (sAL (znw1 (sP3 G) 96 0) 3) (zp 96 0) 0 (zp 3 0)) := (zfr_AL (G := znw1 (sP3 G) 96 0) (r := 3) (z 3 (by decide) (by decide)) (by omega) (by decide)).trans (zfr.sr (by decide))
  have d4 : zfr CT (zsr (sAL (znw1 (sP3 G) 96 0) 3) (zp 96 0) 0 (zp 3 0)) (s2a (znw1 (sP3 G) 96 0)) := zfr.nw1 (z 1033 (by decide) (by decide)) (by omega) (by decide)
  have f4 : zfr CT (s2a (znw1 (sP3 G) 96 0)) (s2b (s2a (znw1 (sP3 G) 96 0))) := (((zfr.si (by decide)).trans (zfr.si (by decide))).trans (zfr.si (by decide))).trans (zfr.si (by decide))
  have a4 : zfr CT (sP3 G) (sP4 G) := (((((b4.trans c4).trans d4).trans f4).trans (zfr.sr (by decide)))).trans (zfr.sr (by decide))
  have b5 : zfr CT (sP4 G) (znw1 (sP4 G) 320 0) := zfr.nw1 (z 320 (by decide) (by decide)) (by omega) (by decide)
  have c5 : zfr CT (znw1 (sP4 G) 320 0) (s9 (znw1 (sP4 G) 320 0)) := ((((((zfr.si (by decide)).trans (zfr.si (by decide))).trans (zfr.si (by decide))).trans (zfr.si (by decide))).trans (zfr.si (by decide))).trans (zfr.si (by decide))).trans (zfr.si (by decide))
  have a5 : zfr CT (sP4 G) (sP5 G) := (b5.trans c5).trans (zfr.sr (by decide))
  have b6 : zfr CT (sP5 G) (znw1 (sP5 G) 224 0) := zfr.nw1 (z 224 (by decide) (by decide)) (by omega) (by decide)
  have a6 : zfr CT (sP5 G) (sP6 G) := (b6.trans (zfr_s6 (G := znw1 (sP5 G) 224 0) (a := 4) (b := 5) (z 4 (by decide) (by decide)) (z 5 (by decide) (by decide)) (by decide) (by omega) (by omega) (by decide) (by decide) (by decide))).trans (zfr.sr (by decide))
  have b7 : zfr CT (sP6 G) (znw1 (sP6 G) 225 0) := zfr.nw1 (z 225 (by decide) (by decide)) (by omega) (by decide)
  have a7 : zfr CT (sP6 G) (sP7 G) := (b7.trans (zfr_s6 (G := znw1 (sP6 G) 225 0) (a := 6) (b := 7) (z 6 (by decide) (by decide)) (z 7 (by decide) (by decide)) (by decide) (by omega) (by omega) (by decide) (by decide) (by decide))).trans (zfr.sr (by decide))
  exact (((((((a0.trans a1).trans a2).trans an).trans a3).trans a4).trans a5).trans a6).trans a7
theorem po_init (hW : WI Gi) (h0 : ∀ t, t ∈ CT → zcn Gi t = 0) (hS : RI0 S) : PO (sP7 (znw1 Gi 384 0)) S 0 0 0 (sP7 (znw1 Gi 384 0)) := by
  have hf := sP_fr h0
  have v : ∀ k, S 416 k = zin0 416 k := fun k => hS 416 k rfl
  have v0 : ∀ t k, t ≠ 416 → t ≠ 1146 → zrr t = true → S t k = 0 := fun t k h1 h2 h3 => by
    rw [hS t k h3]; unfold zin0; rw [if_neg h1, if_neg h2]
  have zA : nA S = 0 := by unfold nA; rw [v]; rfl
  have zP : nP S = 0 := by unfold nP; rw [v]; rfl
  have zB : nB S = 0 := by unfold nB; rw [v]; rfl
  have zT : nT S = 0 := by unfold nT; rw [v]; rfl
  have zL : nL S = 0 := by unfold nL; rw [v]; rfl
  have zTp : nTp S = 0 := by unfold nTp; rw [v]; rfl
  have z0 : ∀ t, t ∈ CT → t ∉ [384, 1034, 1, 128, 1035, 1036, 352, 256, 2, 96, 3, 1033, 320, 224, 4, 5, 225, 6, 7] → zcn (sP7 (znw1 Gi 384 0)) t = 0 := fun t ht hn => by
    have h := h0 t ht
    simp only [List.mem_cons, List.not_mem_nil, or_false, not_or] at hn
    obtain ⟨n1, n2, n3, m1, m2, m3, m4, n4, n5, n6, n7, n8, n9, n10, n11, n12, n13, n14, n15⟩ := hn
    show (if t = 7 then 1 else if t = 6 then 1 else if t = 225 then 1 else if t = 5 then 1 else if t = 4 then 1 else if t = 224 then 1 else if t = 320 then 1 else if t = 1033 then 1 else if t = 3 then 1 else if t = 96 then 1 else if t = 2 then 1 else if t = 256 then 1 else if t = 352 then 1 else if t = 1036 then 1 else if t = 1035 then 1 else if t = 128 then 1 else if t = 1 then 1 else if t = 1034 then 1 else if t = 384 then 1 else zcn Gi t) = 0
    rw [if_neg n15, if_neg n14, if_neg n13, if_neg n12, if_neg n11, if_neg n10, if_neg n9, if_neg n8, if_neg n7, if_neg n6, if_neg n5, if_neg n4, if_neg m4, if_neg m3, if_neg m2, if_neg m1, if_neg n3, if_neg n2, if_neg n1]; exact h
  have ob : ∀ t c, t < 448 → t / 32 = c → zcn (sP7 (znw1 Gi 384 0)) t = 1 → zob (sP7 (znw1 Gi 384 0)) (zp t 0) c := fun t c h1 h2 h3 => zob_zp h1 h2 (by rw [h3]; omega)
  have n95 : zal (sP7 (znw1 Gi 384 0)) (zp 4095 0) ∧ zln (sP7 (znw1 Gi 384 0)) (zp 4095 0) = 0 := ⟨hf.al hW.2.2.1.1, by rw [hf.ln (by omega) (by decide)]; exact hW.2.2.1.2⟩
  have al : ∀ r f, r < 32 → zcn (sP7 (znw1 Gi 384 0)) r = 1 → ziv (sP7 (znw1 Gi 384 0)) (zp r 0) 2 = 0 → zrv (sP7 (znw1 Gi 384 0)) (zp r 0) 1 = zp 4095 0 → zAL (sP7 (znw1 Gi 384 0)) r 0 f := fun r f h1 h2 h3 h4 => ⟨(zal_zp (by omega)).mpr (by rw [h2]; omega), h3, n95, Or.inl ⟨rfl, h4⟩⟩
  have no : ∀ t, t ∈ [3600, 3601, 3602, 3603, 4095] → t ∉ CT := by decide
  have hRI : RI S := by
    unfold RI
    rw [zA, zP, zB, zT, v, v, v, v]
    exact ⟨⟨rfl, by omega⟩, ⟨rfl, by omega⟩, ⟨rfl, by omega⟩, ⟨rfl, by omega⟩, fun a ha => absurd ha (Nat.not_lt_zero _), fun a => Or.inl (v0 _ _ (by omega) (by omega) rfl)⟩
  have hCS : CS (sP7 (znw1 Gi 384 0)) := hW.2.1.fr hf (no _ (by decide))
  have hPW : PWm (sP7 (znw1 Gi 384 0)) (sP7 (znw1 Gi 384 0)) := by
    obtain ⟨⟨⟨w1, w2, w3⟩, w4, w5, w6⟩, -, -, w7⟩ := hW
    unfold PWm
    rw [hf.ln (by omega) (no 3600 (by decide)), hf.iv (by omega) (no 3600 (by decide)), hf.ln (by omega) (no 3601 (by decide)), hf.iv (by omega) (no 3601 (by decide))]
    exact ⟨⟨hf.rd w1, w2, w3⟩, hf.rd w4, w5, w6, zfr.rf, fun n hn => zstr_fr (w7 n hn) hf hn (RT_st n hn).2⟩
  clear hf hW h0
  generalize hX : sP7 (znw1 Gi 384 0) = X at *
  have hX := hX.symm
  refine ⟨⟨ob 384 12 (by omega) (by decide) (by rw [hX]; rfl), by rw [hX]; rfl, by rw [hX]; rfl, by rw [hX]; rfl, by rw [hX]; rfl, by rw [hX]; rfl, by rw [hX]; rfl, by rw [hX]; rfl, by rw [hX]; rfl⟩, ⟨zar_zp (by omega) (by omega) (by omega) (by rw [hX]; show 0 < 1; omega), by rw [hX]; rfl, by rw [v, hX]; rfl, fun j hj => absurd hj (by rw [zTp]; omega), by rw [v, hX]; rfl⟩, ⟨fun _ => 0, by rw [zL]; exact al 1 _ (by omega) (by rw [hX]; rfl) (by rw [hX]; rfl) (by rw [hX]; rfl), fun j hj => absurd hj (by rw [zL]; omega), ⟨⟨0, by rw [hX]; show 0 < 1; omega, by rw [hX]; rfl, by rw [hX]; rfl, by rw [hX]; show 0 < 1; omega, by rw [hX]; rfl, by rw [hX]; rfl⟩, fun j hj => absurd hj (by rw [zL]; omega)⟩⟩, fun p hp => absurd hp (by rw [zP]; omega), hPW, ?_, ?_, ?_⟩
  · refine ⟨by omega, hRI, ⟨⟨fun p q => Or.inl (v0 _ _ (by omega) (by omega) rfl), fun p q _ _ => by rw [v0 _ _ (by omega) (by omega) rfl, v0 _ _ (by omega) (by omega) rfl]⟩, fun a => Or.inr (by rw [v0 _ _ (by omega) (by omega) rfl]; decide), fun a => Or.inr (by rw [v0 _ _ (by omega) (by omega) rfl]; decide), by rw [v]; decide⟩, ?_, ?_, ?_, hCS, ?_⟩
    · unfold CP
      rw [zP]
      exact ⟨ob 256 8 (by omega) (by decide) (by rw [hX]; rfl), by rw [hX]; rfl, al 2 _ (by omega) (by rw [hX]; rfl) (by rw [hX]; rfl) (by rw [hX]; rfl), ⟨z0 288 (by decide) (by decide), z0 1030 (by decide) (by decide), z0 1031 (by decide) (by decide)⟩, fun p hp => absurd hp (Nat.not_lt_zero _)⟩
    · unfold CD
      rw [zT]
      refine ⟨ob 96 3 (by omega) (by decide) (by rw [hX]; rfl), by rw [hX]; rfl, by rw [hX]; rfl, ⟨zar_zp (by omega) (by omega) (by omega) (by rw [hX]; show 0 < 1; omega), by rw [hX]; rfl, fun d hd => ?_⟩, al 3 _ (by omega) (by rw [hX]; rfl) (by rw [hX]; rfl) (by rw [hX]; rfl), z0 160 (by decide) (by decide), fun k hk => absurd hk (Nat.not_lt_zero _)⟩
      rw [hS 1146 d rfl, hX]
      match d, hd with
      | 0, _ => rfl
      | 1, _ => rfl
      | 2, _ => rfl
      | 3, _ => rfl
    · unfold CR
      rw [v, v, v, v, v, v, v]
      exact ⟨ob 320 10 (by omega) (by decide) (by rw [hX]; rfl), by rw [hX]; rfl, by rw [hX]; rfl, by rw [hX]; rfl, by rw [hX]; rfl, by rw [hX]; rfl, by rw [hX]; rfl, by rw [hX]; rfl⟩
    · unfold SO
      rw [zA, zB]
      refine ⟨⟨ob 224 7 (by omega) (by decide) (by rw [hX]; rfl), by rw [hX]; rfl, by rw [hX]; rfl, by rw [hX]; rfl, by rw [hX]; rfl, by rw [hX]; rfl, fun k h1 h2 => ?_⟩, ⟨al 4 _ (by omega) (by rw [hX]; rfl) (by rw [hX]; rfl) (by rw [hX]; rfl), z0 32 (by decide) (by decide), fun a ha => absurd ha (Nat.not_lt_zero _)⟩, ⟨al 5 _ (by omega) (by rw [hX]; rfl) (by rw [hX]; rfl) (by rw [hX]; rfl), z0 64 (by decide) (by decide), Nat.le_refl _, by omega, fun b hb => absurd hb (Nat.not_lt_zero _)⟩⟩
      show ziv X (zp 224 0) k = _
      have h : oFld S (S 416 42) k = 0 := by
        unfold oFld
        rw [v, v, v, v, v, v, v, v, v]
        split
        · rfl
        · split
          · rfl
          · split
            · rfl
            · split
              · rfl
              · split
                · rfl
                · split
                  · rfl
                  · split
                    · rfl
                    · split <;> rfl
      rw [h, hX]
      match k, h1, h2 with
      | 5, _, _ => rfl
      | 6, _, _ => rfl
      | 7, _, _ => rfl
      | 8, _, _ => rfl
      | 9, _, _ => rfl
      | 10, _, _ => rfl
      | 11, _, _ => rfl
      | 12, _, _ => rfl
      | 13, _, _ => rfl
  · refine ⟨⟨ob 225 7 (by omega) (by decide) (by rw [hX]; rfl), by rw [hX]; rfl, by rw [hX]; rfl, by rw [hX]; rfl, by rw [hX]; rfl, by rw [hX]; rfl⟩, ⟨al 6 _ (by omega) (by rw [hX]; rfl) (by rw [hX]; rfl) (by rw [hX]; rfl), z0 33 (by decide) (by decide), Nat.zero_le _, fun a ha => absurd ha (Nat.not_lt_zero _)⟩, al 7 _ (by omega) (by rw [hX]; rfl) (by rw [hX]; rfl) (by rw [hX]; rfl), z0 65 (by decide) (by decide), by omega⟩
  · refine ⟨?_, fun p hp => absurd hp (by rw [zP]; omega), ⟨fun a => Or.inl (v0 _ _ (by omega) (by omega) rfl), fun a ha => ?_, fun a => ?_⟩, ?_, fun a _ => ⟨v0 _ _ (by omega) (by omega) rfl, v0 _ _ (by omega) (by omega) rfl⟩⟩
    · unfold SK TB
      rw [zTp, zL, zP, v, v, v]
      exact ⟨⟨⟨rfl, by omega⟩, fun j hj => absurd hj (Nat.not_lt_zero _)⟩, ⟨rfl, by omega⟩, Or.inl rfl, fun p hp => absurd hp (Nat.not_lt_zero _), fun p q _ _ _ => v0 _ _ (by omega) (by omega) rfl, fun p _ => v0 _ _ (by omega) (by omega) rfl⟩
    · rw [v0 _ _ (by omega) (by omega) rfl] at ha; exact absurd ha (by decide)
    · rw [v0 _ _ (by omega) (by omega) rfl]
      exact ⟨by decide, fun z => absurd z (by decide)⟩
    · unfold TD; rw [v]; decide
end ZInitB
