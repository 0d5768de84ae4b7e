/-! the store when the law begins -/
theorem va_eqr {args : Array Value} {s : State} {t u : Term} {a : Nat} (h : (Cond.eq t u).before args s = true) (ht : t.eval args s none [] s = some (.ref a)) : u.eval args s none [] s = some (.ref a) := by
  cases hv : u.eval args s none [] s with
  | none => simp [Cond.before, Cond.holds, Cond.value, hv, ht] at h
  | some w =>
    simp only [Cond.before, Cond.holds, Cond.value, hv, ht] at h
    cases w <;> simp_all
theorem zRO_of {args : Array Value} {s : State} {tm : Term} {ty : FieldType} {N : Nat} {f : Nat → Int32} (hN : N < 2 ^ 31) (h1 : (Cond.arrayOf tm ty).before args s = true) (h2 : (Cond.eq (.length tm) (.int (Int32.ofNat N))).before args s = true) (h3 : ∀ j, j < N → (Cond.eq (.elem tm (.int (Int32.ofNat j))) (.int (f j))).before args s = true) : ∃ t : Nat, tm.eval args s none [] s = some (.ref t) ∧ zRO s s.heap t N f ty := by
  obtain ⟨t, ht, cell, c1, c2, c3, c4, c5, c6, -⟩ := va_Tof (A := fun q => s.heap.size ≤ q) (f := fun j => .int (f j)) hN h1 (va_eqt h2) (fun j hj => va_eqt (h3 j hj)) (fun a ha => Nat.not_le.mpr ha)
  exact ⟨t, ht, cell, c1, c2, c3, c4, c5, c6⟩
/-- places on cells that are new bind nothing -/
theorem zf_drop {s s' : State} {J : List Loc} {k n : Nat} (h : s.sameButNew s' J k n) (hJ : ∀ x ∈ J, s.heap.size ≤ x.base) : s.sameButNew s' [] k n := by
  obtain ⟨h1, h2, h3, h4, h5, h6⟩ := h
  refine ⟨h1, h2, h3, h4, h5, fun a c hc => ?_⟩
  obtain ⟨c', hc', hce, hsz, hout⟩ := h6 a c hc
  exact ⟨c', hc', hce, hsz, fun i _ => hout i (fun hm => absurd (Array.getElem?_eq_some_iff.mp hc).1 (Nat.not_lt.mpr (hJ _ hm)))⟩
/-- an array is of one type, has one length, one content -/
theorem zRO.eq {U : State} {H : Heap} {a n n' : Nat} {f f' : Nat → Int32} {ty ty' : FieldType} (h : zRO U H a n f ty) (h' : zRO U H a n' f' ty') (hn : n < 2 ^ 31) (hn' : n' < 2 ^ 31) : ty = ty' ∧ n = n' ∧ ∀ j, j < n → f j = f' j := by
  obtain ⟨c, c1, c2, c3, c4, c5, c6⟩ := h
  obtain ⟨c', d1, d2, d3, d4, d5, d6⟩ := h'
  cases c1.symm.trans d1
  obtain ⟨-, k, k1, comp, k2⟩ := c2
  obtain ⟨-, k', l1, comp', l2⟩ := d2
  cases k1.symm.trans l1
  have e := k2.symm.trans l2
  injection e with e1 e2
  have en : n = n' := by
    have e3 := congrArg Int32.toNatClampNeg (c5.symm.trans d5)
    rw [Int32.toNatClampNeg_ofNat_of_lt hn, Int32.toNatClampNeg_ofNat_of_lt hn'] at e3
    exact e3
  exact ⟨e2, en, fun j hj => Value.int.inj (Option.some.inj ((c6 j hj).symm.trans (d6 j (en ▸ hj))))⟩
abbrev zGh (q : Nat) : Prop := q = 3600 ∨ q = 3601 ∨ q = 3602 ∨ q = 3603 ∨ q = 4095 ∨ (3840 ≤ q ∧ q < 3872)
def zGc (t : Nat) : Nat := if zGh t then 1 else 0
def zGl (L q : Nat) : Nat := if q = 3600 then 3 else if q = 3601 then 21 else if q = 3602 then 4 else if q = 3603 then L else if 3840 ≤ q ∧ q < 3872 then zstl (q - 3840) else 0
def zGw (q k : Nat) : Int32 := if q = 3600 then (if k = 0 then 7 else if k = 1 then 3 else 1) else if q = 3601 then (mrk[k]?).getD 0 else if q = 3602 then rSt k else if 3840 ≤ q ∧ q < 3872 then zstc (q - 3840) k else 0
def zGv (xs : Nat → Int32) (q k : Nat) : Int32 := if q = 3603 then xs k else zGw q k
def zGi (L : Nat) (xs : Nat → Int32) : ZG := (zGc, zGl L, zGv xs, fun _ _ => 0)
theorem zGi_al {L q : Nat} {xs : Nat → Int32} : zal (zGi L xs) q ↔ zGh q := by
  unfold zal
  show q / 4096 < zGc (q % 4096) ↔ zGh q
  unfold zGc
  constructor
  · intro h
    by_cases c : zGh (q % 4096)
    · rw [if_pos c] at h
      have e : q % 4096 = q := by omega
      rw [e] at c; exact c
    · rw [if_neg c] at h; omega
  · intro h
    have e : q % 4096 = q := by unfold zGh at h; omega
    rw [e, if_pos h]
    unfold zGh at h; omega
theorem zGl_s {L n : Nat} (h : n < 32) : zGl L (3840 + n) = zstl n := by
  unfold zGl
  rw [if_neg (by omega), if_neg (by omega), if_neg (by omega), if_neg (by omega), if_pos (by omega), Nat.add_sub_cancel_left]
theorem zGv_s {xs : Nat → Int32} {n k : Nat} (h : n < 32) : zGv xs (3840 + n) k = zstc n k := by
  unfold zGv zGw
  rw [if_neg (by omega), if_neg (by omega), if_neg (by omega), if_neg (by omega), if_pos (by omega), Nat.add_sub_cancel_left]
theorem WI_zGi {L : Nat} {xs : Nat → Int32} : WI (zGi L xs) := by
  have al : ∀ t, zGh t → zal (zGi L xs) (zp t 0) := fun t h => zGi_al.mpr (by rw [zp_0]; exact h)
  refine ⟨⟨⟨⟨al _ (by decide), by decide, rfl⟩, rfl, fun k _ => rfl⟩, ⟨al _ (by decide), by decide, rfl⟩, rfl, fun k _ => rfl⟩, ⟨⟨al _ (by decide), by decide, rfl⟩, rfl, fun k _ => rfl⟩, ⟨al _ (by decide), rfl⟩, fun n hn => ⟨al _ ?_, ?_, fun j _ => ?_⟩⟩
  · unfold zGh; omega
  · show zGl L (zp (3840 + n) 0) = _
    rw [zp_0]; exact zGl_s hn
  · show zGv xs (zp (3840 + n) 0) j = _
    rw [zp_0]; exact zGv_s hn
theorem zst_ne : ∀ n, n < 32 → ∀ m, m < 32 → zstl n = zstl m → (∀ j, j < zstl n → zstc n j = zstc m j) → n = m := by decide +kernel
theorem zGl_lt {L q : Nat} (hL : L ≤ 4096) : zGl L q < 2 ^ 31 := by
  unfold zGl
  repeat' split
  all_goals first | omega | exact (wfl_s _ (by omega)).2.2.2.2
theorem zGi_R {E : ZE} {s : State} {L : Nat} {xs : Nat → Int32} (hL : L ≤ 4096) (hro : ∀ q, zGh q → zRO s s.heap (E.2.2.2 q) (zGl L q) (zGv xs q) (zROt q)) (hb : E.2.2.2 3603 ≠ E.2.2.2 3600 ∧ E.2.2.2 3603 ≠ E.2.2.2 3601 ∧ E.2.2.2 3603 ≠ E.2.2.2 3602) : ZR E s E.2.2.2 (zGi L xs) s.heap := by
  refine ⟨fun q hq => ?_, fun q q' hq hq' e => ?_, fun _ _ => rfl, rfl, fun t ht => ?_⟩
  · have hq := zGi_al.mp hq
    have hr := hro q hq
    have e : q % 4096 = q := by unfold zGh at hq; omega
    have hb : 3584 ≤ q := by unfold zGh at hq; omega
    obtain ⟨cell, c1, -⟩ := id hr
    refine ⟨?_, fun _ => Or.inl rfl, (Array.getElem?_eq_some_iff.mp c1).1, fun hx => absurd (Or.inr (by omega)) hx⟩
    unfold zcell
    rw [e, if_neg (by omega), if_neg (by omega), if_neg (by omega)]
    exact hr
  · have hq := zGi_al.mp hq
    have hq' := zGi_al.mp hq'
    have h := hro q hq
    have h' := hro q' hq'
    rw [← e] at h'
    obtain ⟨e1, e2, e3⟩ := h.eq h' (zGl_lt hL) (zGl_lt hL)
    obtain ⟨b0, b1, b2⟩ := hb
    have ro : ∀ n, 3840 ≤ n → n < 3872 → zROt n = .byte := fun n h1 h2 => by unfold zROt; rw [if_neg (by omega), if_pos h1]
    by_cases hs : (3840 ≤ q ∧ q < 3872) ∧ (3840 ≤ q' ∧ q' < 3872)
    · obtain ⟨⟨p1, p2⟩, r1, r2⟩ := hs
      obtain ⟨n, rfl⟩ : ∃ n, q = 3840 + n := ⟨q - 3840, by omega⟩
      obtain ⟨m, rfl⟩ : ∃ m, q' = 3840 + m := ⟨q' - 3840, by omega⟩
      rw [zGl_s (by omega)] at e3
      rw [zGl_s (by omega), zGl_s (by omega)] at e2
      rw [zst_ne n (by omega) m (by omega) e2 (fun j hj => by have := e3 j hj; rw [zGv_s (by omega), zGv_s (by omega)] at this; exact this)]
    · rcases hq with rfl | rfl | rfl | rfl | rfl | ⟨p1, p2⟩ <;> rcases hq' with rfl | rfl | rfl | rfl | rfl | ⟨r1, r2⟩ <;> first
        | rfl
        | exact absurd e1 (by decide)
        | exact absurd e b0
        | exact absurd e b1
        | exact absurd e b2
        | exact absurd e.symm b0
        | exact absurd e.symm b1
        | exact absurd e.symm b2
        | (rw [ro _ r1 r2] at e1; exact absurd e1 (by decide))
        | (rw [ro _ p1 p2] at e1; exact absurd e1 (by decide))
        | (simp [zGl] at e2; done)
        | exact absurd ⟨⟨p1, p2⟩, r1, r2⟩ hs
        | trivial
  · show zGc t = 0
    unfold zGc
    rw [if_neg (by unfold zGh; omega)]
theorem z_pl (w0 w1 w2 b w5 si mi : Nat) (aV aK : Nat → Nat) : ∃ pl : Nat → Nat, pl 3600 = w0 ∧ pl 3601 = w1 ∧ pl 3602 = w2 ∧ pl 3603 = b ∧ pl 4095 = w5 ∧ (∀ k, k < 32 → pl (3840 + k) = aV k) ∧ pl (zp 1002 0) = si ∧ pl (zp 1003 0) = mi ∧ ∀ k, pl (zp 1000 k) = aK k := by
  refine ⟨fun q => if q = 3600 then w0 else if q = 3601 then w1 else if q = 3602 then w2 else if q = 3603 then b else if q = 4095 then w5 else if 3840 ≤ q ∧ q < 3872 then aV (q - 3840) else if q % 4096 = 1002 then si else if q % 4096 = 1003 then mi else aK (q / 4096), rfl, rfl, rfl, rfl, rfl, fun k hk => ?_, rfl, rfl, fun k => ?_⟩
  · show (if 3840 + k = 3600 then w0 else _) = _
    rw [if_neg (by omega), if_neg (by omega), if_neg (by omega), if_neg (by omega), if_neg (by omega), if_pos (by omega), Nat.add_sub_cancel_left]
  · have e : zp 1000 k / 4096 = k := zp_div (by omega)
    have e2 : zp 1000 k % 4096 = 1000 := zp_mod (by omega)
    show (if zp 1000 k = 3600 then w0 else _) = _
    rw [if_neg (by omega), if_neg (by omega), if_neg (by omega), if_neg (by omega), if_neg (by omega), if_neg (by omega), if_neg (by omega), if_neg (by omega), e]
theorem z_cwa : ∀ ci, ci < 14 → (∀ w ∈ u_ws (zC ci) (zT ci) (zN ci), w ∈ lw_tbl) ∧ Cond.instantiable (zC ci) (zN ci) ∈ zgood := by
  intro ci h
  match ci, h with
  | 0, _ => exact ⟨z_cw0, n0_inst⟩
  | 1, _ => exact ⟨z_cw1, n1_inst⟩
  | 2, _ => exact ⟨z_cw2, n2_inst⟩
  | 3, _ => exact ⟨z_cw3, n3_inst⟩
  | 4, _ => exact ⟨z_cw4, n4_inst⟩
  | 5, _ => exact ⟨z_cw5, n5_inst⟩
  | 6, _ => exact ⟨z_cw6, n6_inst⟩
  | 7, _ => exact ⟨z_cw7, n7_inst⟩
  | 8, _ => exact ⟨z_cw8, n8_inst⟩
  | 9, _ => exact ⟨z_cw9, n9_inst⟩
  | 10, _ => exact ⟨z_cw10, n10_inst⟩
  | 11, _ => exact ⟨z_cw11, n11_inst⟩
  | 12, _ => exact ⟨z_cw12, n12_inst⟩
  | 13, _ => exact ⟨z_cw13, n13_inst⟩
section ZStart
variable {args : Array Value} {s : State}
theorem z_K1 (hts : ∀ w ∈ lw_tbl, w.before args s = true) : ∃ p : Nat → ClassId × (Nat → Nat), ∀ ci, ci < 14 → u_Kn s (zC ci) (zT ci) (zN ci) (p ci).1 (p ci).2 := by
  have h0 : ∀ ci : Nat, ∃ p : ClassId × (Nat → Nat), ci < 14 → u_Kn s (zC ci) (zT ci) (zN ci) p.1 p.2 := by
    intro ci
    by_cases h : ci < 14
    · obtain ⟨h1, h2⟩ := z_cwa ci h
      obtain ⟨c, i, hk⟩ := u_known hts h1 (hts _ (List.mem_filter.mp h2).1)
      exact ⟨(c, i), fun _ => hk⟩
    · exact ⟨(0, fun _ => 0), fun c => absurd c h⟩
  exact Classical.axiomOfChoice h0
theorem z_K2 (hts : ∀ w ∈ lw_tbl, w.before args s = true) : ∃ p : Nat → ClassId, ∀ k, k < 5 → ArrOfT s (p k) (zAk k) ∧ va_RA s (p k) (zAk k) := by
  have prim : ∀ ty, (∀ cA, va_RA s cA ty = (s.vm.findClass ("[" ++ ty.toString) = some cA)) → Cond.arrayClass ty ∈ zgood → ∃ c, ArrOfT s c ty ∧ va_RA s c ty := by
    intro ty h1 h2
    obtain ⟨c, k, comp, g1, g2, g3⟩ := Cond.arrayClass_spec (hts _ (List.mem_filter.mp h2).1)
    exact ⟨c, fun N z => ⟨fun k h => (by cases h), k, g2, comp, g3⟩, by rw [h1]; exact g1⟩
  have h0 : ∀ k : Nat, ∃ c : ClassId, k < 5 → ArrOfT s c (zAk k) ∧ va_RA s c (zAk k) := by
    intro k
    match k with
    | 0 => obtain ⟨c, h⟩ := prim .int (fun _ => rfl) a_int; exact ⟨c, fun _ => h⟩
    | 1 => obtain ⟨c, h⟩ := prim .byte (fun _ => rfl) a_byte; exact ⟨c, fun _ => h⟩
    | 2 => obtain ⟨c, h⟩ := prim .boolean (fun _ => rfl) a_boolean; exact ⟨c, fun _ => h⟩
    | 3 => obtain ⟨c, h⟩ := prim .long (fun _ => rfl) a_long; exact ⟨c, fun _ => h⟩
    | 4 =>
      obtain ⟨comp, c, k, g1, g2, g3, g4, g5⟩ := Cond.arrayOver_spec (hts _ ztb_ao)
      exact ⟨c, fun _ => ⟨fun N z => ⟨fun k h => (by cases h), k, g3, comp, g4⟩, k, comp, g3, g4, g1, g5⟩⟩
    | k + 5 => exact ⟨0, fun h => absurd h (by omega)⟩
  exact Classical.axiomOfChoice h0
theorem z_S1 (hfl : ∀ w ∈ wfl, w.before args s = true) : ∃ p : Nat → Nat × Nat, ∀ n, n < 32 → (wstm n).eval args s none [] s = some (.ref (p n).1) ∧ va_O "java/lang/String" (p n).1 (fun q => s.heap.size ≤ q) s s.heap ∧ va_OF "java/lang/String" "coder" "B" (.int 0) (p n).1 (fun q => s.heap.size ≤ q) s s.heap ∧ va_OF "java/lang/String" "value" "[B" (.ref (p n).2) (p n).1 (fun q => s.heap.size ≤ q) s s.heap ∧ zRO s s.heap (p n).2 (zstl n) (zstc n) .byte := by
  have hA : ∀ a : Nat, a < s.heap.size → ¬ s.heap.size ≤ a := fun a h => Nat.not_le.mpr h
  have h0 : ∀ n : Nat, ∃ p : Nat × Nat, n < 32 → (wstm n).eval args s none [] s = some (.ref p.1) ∧ va_O "java/lang/String" p.1 (fun q => s.heap.size ≤ q) s s.heap ∧ va_OF "java/lang/String" "coder" "B" (.int 0) p.1 (fun q => s.heap.size ≤ q) s s.heap ∧ va_OF "java/lang/String" "value" "[B" (.ref p.2) p.1 (fun q => s.heap.size ≤ q) s s.heap ∧ zRO s s.heap p.2 (zstl n) (zstc n) .byte := by
    intro n
    by_cases h : n < 32
    · obtain ⟨f1, f2, f3, f4, f5⟩ := wfl_s n h
      have g : ∀ {i : Nat} {w : Cond}, wfl[i]? = some w → w.before args s = true := fun e => hfl _ (List.mem_of_getElem? e)
      obtain ⟨a, c, cA, kA, q1, q2, q3, q4, q5, q6, -⟩ := Cond.exactly_spec (args := args) (first := s) (o := none) (s := s) (idx := []) (t := wstm n) (cls := "java/lang/String") (g f1)
      obtain ⟨t, ht, hT⟩ := zRO_of f5 (g f3) (g f4) (fun j hj => g (wfl_c n h j hj))
      exact ⟨(a, t), fun _ => ⟨q1, ⟨cA, q3, q5, by rw [q6]; exact q2, hA a (Array.getElem?_eq_some_iff.mp q3).1⟩, vk_OFof q1 (va_eqt (g f2)) hA, vk_OFof q1 ht hA, hT⟩⟩
    · exact ⟨(0, 0), fun c => absurd c h⟩
  exact Classical.axiomOfChoice h0
end ZStart
theorem wfl_w : ∀ j, j < 3 → Cond.eq (.elem (.static "PassportOffice$Name" "WEIGHTS" "[I") (.int (Int32.ofNat j))) (.int (zGw 3600 j)) ∈ wfl := by decide +kernel
theorem wfl_m : ∀ j, j < 21 → Cond.eq (.elem (.static "PassportOffice$Name" "MARKED" "[I") (.int (Int32.ofNat j))) (.int (zGw 3601 j)) ∈ wfl := by decide +kernel
theorem wfl_t : ∀ j, j < 4 → Cond.eq (.elem (.static "PassportOffice$Desks" "STATE_AT" "[I") (.int (Int32.ofNat j))) (.int (zGw 3602 j)) ∈ wfl := by decide +kernel
