/-! the law, from the state that the statement speaks of -/
set_option maxHeartbeats 4000000 in
theorem whole_start {p : Program} {e : Env} {s : State} {m : MethodId} {below : List Frame} {meth : Method} {c : Code} (l : Launch) (hflags : l.flags = flags0) {b L : Nat} {xs : Nat → Int32} (hL : L ≤ 4096) (C0 : lw_At p s m meth c b L xs) : W p l e room_1 s m #[Value.ref b] below meth c s.heap [] 0 0 (lw_Z below #[Value.ref b] s) (entryFrame m ([Value.ref b] : List Value).toArray 7) := by
  obtain ⟨hx, hb, hr, hml, hown, hts, hX, hbl, hlocks, hgv⟩ := id C0
  have hfl : ∀ w ∈ wfl, w.before #[Value.ref b] s = true := flat_of_before _ hgv
  have g : ∀ (i : Nat) {w : Cond}, wfl[i]? = some w → w.before #[Value.ref b] s = true := fun _ _ e => hfl _ (List.mem_of_getElem? e)
  have htr : l.stackTraces = false := by
    unfold Launch.stackTraces
    rw [hflags]; decide +kernel
  have hA : ∀ a : Nat, a < s.heap.size → ¬ s.heap.size ≤ a := fun a h => Nat.not_le.mpr h
  obtain ⟨pc, hpc⟩ := z_K1 hts
  obtain ⟨pa, hpa⟩ := z_K2 hts
  obtain ⟨ps, hps⟩ := z_S1 hfl
  obtain ⟨w0, e0, r0⟩ := zRO_of (args := #[Value.ref b]) (s := s) (tm := .static "PassportOffice$Name" "WEIGHTS" "[I") (ty := .int) (N := 3) (f := zGw 3600) (by decide) (g 40 (by decide +kernel)) (g 41 (by decide +kernel)) (fun j hj => hfl _ (wfl_w j hj))
  obtain ⟨w1, e1, r1⟩ := zRO_of (args := #[Value.ref b]) (s := s) (tm := .static "PassportOffice$Name" "MARKED" "[I") (ty := .int) (N := 21) (f := zGw 3601) (by decide) (g 16 (by decide +kernel)) (g 17 (by decide +kernel)) (fun j hj => hfl _ (wfl_m j hj))
  obtain ⟨w2, e2, r2⟩ := zRO_of (args := #[Value.ref b]) (s := s) (tm := .static "PassportOffice$Desks" "STATE_AT" "[I") (ty := .int) (N := 4) (f := zGw 3602) (by decide) (g 46 (by decide +kernel)) (g 47 (by decide +kernel)) (fun j hj => hfl _ (wfl_t j hj))
  obtain ⟨w5, e5, r5⟩ := zRO_of (args := #[Value.ref b]) (s := s) (tm := .static "java/util/ArrayList" "DEFAULTCAPACITY_EMPTY_ELEMENTDATA" "[Ljava/lang/Object;") (ty := .object "java/lang/Object") (N := 0) (f := fun _ => 0) (by decide) (g 5 (by decide +kernel)) (g 7 (by decide +kernel)) (fun j hj => absurd hj (Nat.not_lt_zero _))
  obtain ⟨mi, hmi⟩ := va_Mi.of (C := "[Ljava/lang/Object;") (g 358 (by decide +kernel))
  have hsi : ∃ si : Nat, va_Z "jdk/internal/util/Preconditions" "SIOOBE_FORMATTER" "Ljava/util/function/BiFunction;" .null (fun q => s.heap.size ≤ q) s s.heap ∨ va_Z "jdk/internal/util/Preconditions" "SIOOBE_FORMATTER" "Ljava/util/function/BiFunction;" (.ref si) (fun q => s.heap.size ≤ q) s s.heap := by
    rcases va_Zqof (A := fun q => s.heap.size ≤ q) (hts _ ztb_st4.1) (hts _ ztb_st4.2) (g 11 (by decide +kernel)) hA with h | ⟨t, h⟩
    · exact ⟨0, Or.inl h⟩
    · exact ⟨t, Or.inr h⟩
  obtain ⟨si, hsi⟩ := hsi
  have n1 : b ≠ w1 := va_neR (t := .arg 0) (g 824 (by decide +kernel)) rfl e1
  have n0 : b ≠ w0 := va_neR (t := .arg 0) (g 825 (by decide +kernel)) rfl e0
  have n2 : b ≠ w2 := va_neR (t := .arg 0) (g 826 (by decide +kernel)) rfl e2
  obtain ⟨pl, q0, q1, q2, q3, q5, qv, qi, qm, qk⟩ := z_pl w0 w1 w2 b w5 si mi (fun n => (ps n).2) (fun n => (ps n).1)
  obtain ⟨E, hE⟩ : ∃ E : ZE, E = ((fun ci => (pc ci).1, fun ci => (pc ci).2), pa, s.heap.size, pl) := ⟨_, rfl⟩
  have hE1 : E.2.2.1 = s.heap.size := by rw [hE]
  have hE2 : E.2.2.2 = pl := by rw [hE]
  have hzA : zA E = fun q => s.heap.size ≤ q := by unfold zA; rw [hE1]
  have hZK : ZK E s := by
    refine ⟨fun ci q hq => ?_, fun k q hq => ?_⟩
    · have hc : ci < 14 := Nat.lt_of_lt_of_le (List.getElem?_eq_some_iff.mp hq).1 (by decide)
      cases (z_cl hc).symm.trans hq
      rw [hE]
      exact hpc ci hc
    · rw [hE] at hq
      match k, hq with
      | 0, hq => cases hq; exact hpa 0 (by decide)
      | 1, hq => cases hq; exact hpa 1 (by decide)
      | 2, hq => cases hq; exact hpa 2 (by decide)
      | 3, hq => cases hq; exact hpa 3 (by decide)
      | 4, hq => cases hq; exact hpa 4 (by decide)
      | k + 5, hq => simp [zAt] at hq
  have hZ2 : ZS2 E s s.heap := by
    unfold ZS2
    rw [hE1, hE2]
    refine ⟨fun k hk => ?_, fun x hx => ?_, va_Zof (hts _ ztb_st3.1) (hts _ ztb_st3.2) (va_eqi (g 10 (by decide +kernel))) hA, ?_, fun x hx => va_Nc.of (hfl _ (wfl_nc x hx)), fun w hw => va_Nw.of (zcast_on hw) (hts _ (List.mem_filter.mp hw).1), va_AO.of (A := #[]) ?_, ?_⟩
    · obtain ⟨-, h2, h3, h4, -⟩ := hps k hk
      rw [qk, zp_0, qv k hk]
      exact ⟨h2, h3, h4⟩
    · obtain ⟨h1, h2⟩ := wfl_r x hx
      rw [qk]
      refine vk_R.of (A := #[Value.ref b]) (hts _ (ztb_r x hx)) ?_
      rcases h1 with h1 | h1
      · rw [h1]; exact (hps _ h2).1
      · exact va_eqr (hfl _ h1) (hps _ h2).1
    · rw [qi]; exact hsi
    · exact hts _ ztb_ao
    · rw [qm]; exact hmi
  have hZS : ZS E s s.heap := by
    unfold ZS
    rw [hzA]
    refine ⟨vx_Zqof (hts _ ztb_st2.1) (hts _ ztb_st2.2.2) (g 8 (by decide +kernel)) hA, vx_Zqof (hts _ ztb_st2.2.1) (hts _ ztb_st2.2.2) (g 9 (by decide +kernel)) hA, fun x hx => ?_, fun w hw => va_Nw.of (va_Nw.onT hw) (hts _ (ztb_nest w hw)), hZ2⟩
    obtain ⟨t1, t2⟩ := ztb_st x hx
    refine va_Zof (hts _ t1) (hts _ t2) ?_ hA
    rw [hE2]
    simp only [zstat, List.mem_cons, List.not_mem_nil, or_false] at hx
    rcases hx with rfl | rfl | rfl | rfl
    · show _ = some (Value.ref (pl (zp 3600 0)))
      rw [zp_0, q0]; exact e0
    · show _ = some (Value.ref (pl (zp 3601 0)))
      rw [zp_0, q1]; exact e1
    · show _ = some (Value.ref (pl (zp 3602 0)))
      rw [zp_0, q2]; exact e2
    · show _ = some (Value.ref (pl (zp 4095 0)))
      rw [zp_0, q5]; exact e5
  have hro : ∀ q, zGh q → zRO s s.heap (E.2.2.2 q) (zGl L q) (zGv xs q) (zROt q) := by
    intro q hq
    rw [hE2]
    rcases hq with rfl | rfl | rfl | rfl | rfl | ⟨p1, p2⟩
    · rw [q0]; exact r0
    · rw [q1]; exact r1
    · rw [q2]; exact r2
    · rw [q3]
      obtain ⟨cell, x1, x2, x3, x4, x5⟩ := hX
      exact ⟨cell, x1, x2, x3, Nat.le_of_eq x4.symm, by rw [x4]; rfl, x5⟩
    · rw [q5]
      obtain ⟨cell, x1, x2, x3, x4, x5, x6⟩ := r5
      exact ⟨cell, x1, x2, x3, x4, x5, fun j hj => absurd hj (Nat.not_lt_zero _)⟩
    · obtain ⟨n, rfl⟩ : ∃ n, q = 3840 + n := ⟨q - 3840, by omega⟩
      have hn : n < 32 := by omega
      obtain ⟨-, -, -, -, h5⟩ := hps n hn
      have et : zROt (3840 + n) = .byte := by unfold zROt; rw [if_neg (by omega), if_pos (by omega)]
      rw [qv n hn, zGl_s hn, et, show zGv xs (3840 + n) = zstc n from funext fun k => zGv_s hn]
      exact h5
  have hZR : ZR E s E.2.2.2 (zGi L xs) s.heap := zGi_R hL hro (by rw [hE2, q0, q1, q2, q3]; exact ⟨n0, n1, n2⟩)
  have c0 : ∀ t, ¬ zGh t → zcn (zGi L xs) t = 0 := fun t h => if_neg h
  have hall : zWL E l mL_law_ 2048 601024 (zGi L xs) Q1 601024 0 [some (.ref (zp 3603 0)), none, none, none, none, none, none] [] (zGi L xs) := by
    refine law_all htr (by omega) (Or.inr (Or.inr (Or.inr rfl))) hL WI_zGi (fun t ht => c0 t ?_) (fun t ht => c0 t ?_) (fun t ht j => ?_) ⟨⟨zGi_al.mpr (by decide), by decide, rfl⟩, rfl⟩
    · have : ∀ t ∈ CT, ¬ zGh t := by decide
      exact this t ht
    · have : ∀ t ∈ RT, ¬ zGh t := by decide +kernel
      exact this t ht
    · show zGv xs (zp t 0) j = 0
      rw [zp_0]
      unfold zGv zGw
      unfold zrr at ht
      simp only [Bool.or_eq_true, Bool.and_eq_true, beq_iff_eq, Nat.ble_eq] at ht
      rw [if_neg (by omega), if_neg (by omega), if_neg (by omega), if_neg (by omega), if_neg (by omega)]
  have hl := lv_entry ([.ref b]) (n := 7) (Nat.le_of_ble_eq_true rfl)
  rw [lg_entry_eq]
  generalize (lg_sl ([.ref b]) ++ List.replicate (7 - (lg_sl ([.ref b])).length) Slot.unset).toArray = ls at hl ⊢
  have hl2 : lv_has ls 7 (zas E.2.2.2 0 [some (.ref (zp 3603 0)), none, none, none, none, none, none]) := by
    have ez : zas E.2.2.2 0 [some (.ref (zp 3603 0)), none, none, none, none, none, none] = [(0, .ref b)] := by
      show [(0, zv E.2.2.2 (.ref (zp 3603 0)))] = _
      rw [zv_ref _ (by decide), hE2, zp_0, q3]
    rw [ez]; exact hl
  have hzg : ∀ w ∈ zgood, w.before #[Value.ref b] s = true := fun w hw => hts w (List.mem_filter.mp hw).1
  have hLg : zLg (zGi L xs) [some (Value.ref (zp 3603 0)), none, none, none, none, none, none] [] := by
    refine ⟨fun i v hv => ?_, fun v hv => nomatch hv⟩
    match i, hv with
    | 0, hv =>
      have hv : (some (some (Value.ref (zp 3603 0))) : Option (Option Value)) = some (some v) := hv
      cases hv
      exact ⟨Or.inr (Or.inr (Or.inr (by decide))), rfl⟩
    | 1, hv => simp at hv
    | 2, hv => simp at hv
    | 3, hv => simp at hv
    | 4, hv => simp at hv
    | 5, hv => simp at hv
    | 6, hv => simp at hv
    | i + 7, hv => simp at hv
  have hC : zCxL Q1 E mL_law_ 2048 601024 p room_1 s m #[Value.ref b] meth c := ⟨hx, hb, hml, hr, hlocks, hown, hzg, trivial, fun X G' h => (nomatch (show (Sum.inr X : Option Value ⊕ String) = .inl (some (.int 1)) from h)), by decide, by decide, by decide, by decide, Nat.le_of_eq hE1, hZK, hZS⟩
  have k := hall p e room_1 s m #[Value.ref b] below meth c s.heap [] 0 0 E.2.2.2 E.2.2.2 ls hC va_S.rf hZR zext.rf hLg (by omega) (by omega) hl2
  intro T hT X
  obtain ⟨t, a1, o, b1, b2, b3⟩ := k T hT X
  refine ⟨t, a1, o, b1, b2, ?_⟩
  rcases b3 with ⟨⟨⟨r, G, ρ', ho, hq, -⟩, -⟩, J, hF, hJ⟩ | ⟨q, -, X9, ce, J, ⟨⟨G, ρ', hq, -⟩, -⟩, -⟩
  · have hq : (r : Option Value) = some (.int 1) := Sum.inl.inj (show (Sum.inl r : Option Value ⊕ String) = .inl (some (.int 1)) from hq)
    subst hq
    have hJ2 : ∀ x ∈ J, s.heap.size ≤ x.base := fun x hx => by
      have := hJ x hx
      rw [hzA] at this; exact this
    exact ⟨ho, hF.1, hF.2.1, (zf_drop hF.2.2 hJ2).mono (Nat.le_refl _) (by decide)⟩
  · exact nomatch (show (Sum.inr X9 : Option Value ⊕ String) = .inl (some (.int 1)) from hq)
