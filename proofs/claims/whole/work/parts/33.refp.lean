/-! THE REFERENCE READS A LAW: its state on the way -/
def zcat (C : List ZCD) (k : Nat) : ZCD := (C[k]?).getD (0, 0, 0)
theorem zcat_app (A B : List ZCD) (k : Nat) : zcat (A ++ B) k = if k < A.length then zcat A k else zcat B (k - A.length) := by
  unfold zcat
  rw [List.getElem?_append]
  split <;> rfl
def zps (S : ZS9) (C : List ZCD) (b : Int32) (p : Nat) (dd : Int32) : ZS9 := fun t k =>
  if t = 416 ∧ k = 4 then Int32.ofNat p else if t = 416 ∧ k = 6 then b else if t = 416 ∧ k = 7 then dd else if t = 416 ∧ k = 20 then Int32.ofNat C.length
  else if t = 1116 ∧ 4800 ≤ k ∧ k < 4800 + C.length then (zcat C (k - 4800)).1 else if t = 1117 ∧ 4800 ≤ k ∧ k < 4800 + C.length then (zcat C (k - 4800)).2.1 else if t = 1118 ∧ 4800 ≤ k ∧ k < 4800 + C.length then (zcat C (k - 4800)).2.2 else S t k
/-- cells that reading a condition changes -/
def zpx (t k : Nat) : Prop := (t = 416 ∧ (k = 4 ∨ k = 6 ∨ k = 7 ∨ k = 20)) ∨ ((t = 1116 ∨ t = 1117 ∨ t = 1118) ∧ 4800 ≤ k)
section ZPs
variable {S : ZS9} {C : List ZCD} {b dd : Int32} {p : Nat}
theorem zps_4 : zps S C b p dd 416 4 = Int32.ofNat p := if_pos ⟨rfl, rfl⟩
theorem zps_6 : zps S C b p dd 416 6 = b := by unfold zps; rw [if_neg (by omega), if_pos ⟨rfl, rfl⟩]
theorem zps_7 : zps S C b p dd 416 7 = dd := by unfold zps; rw [if_neg (by omega), if_neg (by omega), if_pos ⟨rfl, rfl⟩]
theorem zps_20 : zps S C b p dd 416 20 = Int32.ofNat C.length := by unfold zps; rw [if_neg (by omega), if_neg (by omega), if_neg (by omega), if_pos ⟨rfl, rfl⟩]
theorem zps_o {t k : Nat} (h : ¬ zpx t k) : zps S C b p dd t k = S t k := by
  unfold zpx at h
  unfold zps
  rw [if_neg (by omega), if_neg (by omega), if_neg (by omega), if_neg (by omega), if_neg (by omega), if_neg (by omega), if_neg (by omega)]
theorem zps_u4 {p' : Nat} : zup (zps S C b p dd) 416 4 (Int32.ofNat p') = zps S C b p' dd := by
  funext t k
  by_cases h : t = 416 ∧ k = 4
  · obtain ⟨rfl, rfl⟩ := h; rw [zup_s, zps_4]
  · rw [zup_ne h]; unfold zps; rw [if_neg h, if_neg h]
theorem zps_u6 {b' : Int32} : zup (zps S C b p dd) 416 6 b' = zps S C b' p dd := by
  funext t k
  by_cases h : t = 416 ∧ k = 6
  · obtain ⟨rfl, rfl⟩ := h; rw [zup_s, zps_6]
  · rw [zup_ne h]; unfold zps; rw [if_neg h, if_neg h]
theorem zps_u7 {d' : Int32} : zup (zps S C b p dd) 416 7 d' = zps S C b p d' := by
  funext t k
  by_cases h : t = 416 ∧ k = 7
  · obtain ⟨rfl, rfl⟩ := h; rw [zup_s, zps_7]
  · rw [zup_ne h]; unfold zps; rw [if_neg h, if_neg h]
theorem zps_add {x y z : Int32} : zup (zup (zup (zup (zps S C b p dd) 1116 (4800 + C.length) x) 1117 (4800 + C.length) y) 1118 (4800 + C.length) z) 416 20 (Int32.ofNat (C.length + 1)) = zps S (C ++ [(x, y, z)]) b p dd := by
  have hl : (C ++ [(x, y, z)]).length = C.length + 1 := by rw [List.length_append]; rfl
  have hnew : zcat (C ++ [(x, y, z)]) C.length = (x, y, z) := by rw [zcat_app, if_neg (by omega), Nat.sub_self]; rfl
  have hold : ∀ k, k < C.length → zcat (C ++ [(x, y, z)]) k = zcat C k := fun k hk => by rw [zcat_app, if_pos hk]
  funext t k
  by_cases h0 : t = 416 ∧ k = 20
  · obtain ⟨rfl, rfl⟩ := h0; rw [zup_s, zps_20, hl]
  rw [zup_ne h0]
  by_cases h1 : t = 1118 ∧ k = 4800 + C.length
  · obtain ⟨rfl, rfl⟩ := h1
    rw [zup_s]; unfold zps
    rw [if_neg (by omega), if_neg (by omega), if_neg (by omega), if_neg (by omega), if_neg (by omega), if_neg (by omega), if_pos ⟨rfl, by omega, by omega⟩, show 4800 + C.length - 4800 = C.length by omega, hnew]
  rw [zup_ne h1]
  by_cases h2 : t = 1117 ∧ k = 4800 + C.length
  · obtain ⟨rfl, rfl⟩ := h2
    rw [zup_s]; unfold zps
    rw [if_neg (by omega), if_neg (by omega), if_neg (by omega), if_neg (by omega), if_neg (by omega), if_pos ⟨rfl, by omega, by omega⟩, show 4800 + C.length - 4800 = C.length by omega, hnew]
  rw [zup_ne h2]
  by_cases h3 : t = 1116 ∧ k = 4800 + C.length
  · obtain ⟨rfl, rfl⟩ := h3
    rw [zup_s]; unfold zps
    rw [if_neg (by omega), if_neg (by omega), if_neg (by omega), if_neg (by omega), if_pos ⟨rfl, by omega, by omega⟩, show 4800 + C.length - 4800 = C.length by omega, hnew]
  rw [zup_ne h3]
  unfold zps
  by_cases c1 : t = 416 ∧ k = 4
  · rw [if_pos c1, if_pos c1]
  rw [if_neg c1, if_neg c1]
  by_cases c2 : t = 416 ∧ k = 6
  · rw [if_pos c2, if_pos c2]
  rw [if_neg c2, if_neg c2]
  by_cases c3 : t = 416 ∧ k = 7
  · rw [if_pos c3, if_pos c3]
  rw [if_neg c3, if_neg c3, if_neg h0, if_neg h0]
  by_cases c4 : t = 1116 ∧ 4800 ≤ k ∧ k < 4800 + C.length
  · rw [if_pos c4, if_pos (show t = 1116 ∧ 4800 ≤ k ∧ k < 4800 + (C ++ [(x, y, z)]).length by omega), hold _ (by omega)]
  rw [if_neg c4, if_neg (show ¬ (t = 1116 ∧ 4800 ≤ k ∧ k < 4800 + (C ++ [(x, y, z)]).length) by omega)]
  by_cases c5 : t = 1117 ∧ 4800 ≤ k ∧ k < 4800 + C.length
  · rw [if_pos c5, if_pos (show t = 1117 ∧ 4800 ≤ k ∧ k < 4800 + (C ++ [(x, y, z)]).length by omega), hold _ (by omega)]
  rw [if_neg c5, if_neg (show ¬ (t = 1117 ∧ 4800 ≤ k ∧ k < 4800 + (C ++ [(x, y, z)]).length) by omega)]
  by_cases c6 : t = 1118 ∧ 4800 ≤ k ∧ k < 4800 + C.length
  · rw [if_pos c6, if_pos (show t = 1118 ∧ 4800 ≤ k ∧ k < 4800 + (C ++ [(x, y, z)]).length by omega), hold _ (by omega)]
  rw [if_neg c6, if_neg (show ¬ (t = 1118 ∧ 4800 ≤ k ∧ k < 4800 + (C ++ [(x, y, z)]).length) by omega)]
end ZPs
/-- a byte as the tape holds it -/
def sx (m : Nat) : Int32 := (Int32.ofNat m).toInt8.toInt32
theorem sx_int : ∀ m, m < 256 → (sx m).toInt = if m < 128 then (m : Int) else (m : Int) - 256 := by decide +kernel
theorem sx_and : ∀ m, m < 256 → sx m &&& 255 = Int32.ofNat m := by decide +kernel
theorem sx_inn {m : Nat} (hm : m < 256) {lo hi : Int32} (h1 : 0 ≤ lo.toInt) (h2 : hi.toInt ≤ 127) : inn (sx m) lo hi ↔ inn (Int32.ofNat m) lo hi := by
  have e := sx_int m hm
  unfold inn
  rw [i_tl, i_tl, i_tl, i_tl, n_toInt (by omega), e]
  split <;> omega
theorem sx_eq {m : Nat} (hm : m < 256) {c : Int32} (h1 : 0 ≤ c.toInt) (h2 : c.toInt ≤ 127) : sx m = c ↔ Int32.ofNat m = c := by
  have e := sx_int m hm
  rw [i_te, i_te, n_toInt (by omega), e]
  split <;> omega
theorem zstc_rg : ∀ c, c < 32 → ∀ k, k < zstl c → 0 ≤ (zstc c k).toInt ∧ (zstc c k).toInt ≤ 127 := by decide +kernel
/-- the tape holds the text w of n bytes -/
def TX (S : ZS9) (w : Nat → Int32) (n : Nat) : Prop := S 416 5 = Int32.ofNat n ∧ n ≤ 400 ∧ ∀ j, j < n → ∃ m, m < 256 ∧ S 1602 j = sx m ∧ w j = Int32.ofNat m
section ZRp
variable {E : ZE} {l : Launch} {S : ZS9} {w : Nat → Int32} {n : Nat} {C : List ZCD} {b dd : Int32} {p : Nat}
theorem r_isAt {lo hi : Int32} (hX : TX S w n) (hp : p ≤ n) (h1 : 0 ≤ lo.toInt) (h2 : hi.toInt ≤ 127) : rMet E l mX12_isAt 0 0 [.int lo, .int hi] (zps S C b p dd) (rI (zb (p < n ∧ inn (w p) lo hi)) (zps S C b p dd)) := by
  obtain ⟨x1, x2, x3⟩ := hX
  refine r_meth (by decide) (Nat.le_of_ble_eq_true rfl) (by simp [Value.category]) (fun G hK => rwpt_X12_isAt_0 hK ?_); unfold rwp_X12_isAt_0
  rw [zps_4, zps_o (t := 416) (k := 5) (by unfold zpx; omega), x1, n_nn (by omega), zps_o (t := 1602) (k := p) (by unfold zpx; omega)]
  refine ⟨fun h => q0 (fun z => ?_), fun h => ?_⟩
  · rw [n_le (by omega) (by omega)] at h; have := z.1; omega
  · have hpn : p < n := by rw [n_le (by omega) (by omega)] at h; omega
    obtain ⟨m, hm, e1, e2⟩ := x3 p hpn
    have hi9 := sx_inn hm (lo := lo) (hi := hi) h1 h2
    rw [e1, e2]
    unfold inn at hi9 ⊢
    exact ⟨n_in (by omega) (by omega), fun h => q0 (fun z => (hi9.mpr z.2).1 h), fun h => ⟨n_in (by omega) (by omega), fun h2 => q0 (fun z => (hi9.mpr z.2).2 h2), fun h2 => q1 ⟨hpn, hi9.mp ⟨h, h2⟩⟩⟩⟩
theorem r_blanks0 (hX : TX S w n) (hp : p ≤ n) : rMet E l mX12_blanksBetween 1 0 [] (zps S C b p dd) (rV (zps S C (Int32.ofNat (skp w n p)) (skp w n p) dd)) := by
  refine r_meth (by decide) (Nat.le_of_ble_eq_true rfl) (by simp [Value.category]) (fun G hK => rwpt_X12_blanksBetween_0 hK ?_); unfold rwp_X12_blanksBetween_0
  have key : ∀ m p, n - p = m → p ≤ n → ∀ (A : ZG) k, zW E l mX12_blanksBetween 1 0 A (rQ G (rV (zps S C (Int32.ofNat (skp w n p)) (skp w n p) dd))) k 0 [some (.ref (zp 416 0))] [] (zput G (zps S C b p dd)) := by
    intro m
    induction m with
    | zero =>
      intro p hm hp A k
      refine rwpt_X12_blanksBetween_0 hK ?_; unfold rwp_X12_blanksBetween_0
      have h : ¬ (p < n ∧ isbl (w p)) := fun z => by have := z.1; omega
      have e : skp w n p = p := zrn_f h
      refine gI (r_isAt hX hp (by decide) (by decide)) (by decide) (it (zbz h) (fun S4 e4 => ?_))
      rw [e4, zps_4, zps_u6, e]
      exact ⟨rfl, rfl⟩
    | succ m ih =>
      intro p hm hp A k
      refine rwpt_X12_blanksBetween_0 hK ?_; unfold rwp_X12_blanksBetween_0
      refine gI (r_isAt hX hp (by decide) (by decide)) (by decide) ⟨fun h S4 e4 => ?_, fun h S5 e5 => ?_⟩
      · have h : ¬ (p < n ∧ isbl (w p)) := zb_0.mp h
        have e : skp w n p = p := zrn_f h
        rw [e4, zps_4, zps_u6, e]
        exact ⟨rfl, rfl⟩
      · have h : p < n ∧ isbl (w p) := Classical.not_not.mp (fun z => h (zbz z))
        have e : skp w n p = skp w n (p + 1) := zrn_t h
        rw [e5, zps_4, n_p1, zps_u4, e]
        exact ih (p + 1) (by omega) (by omega) A _
  have := key (n - p) p rfl hp (zput G (zps S C b p dd)) 0
  have h2 := this
  unfold zW at h2
  refine gI (r_isAt hX hp (by decide) (by decide)) (by decide) ⟨fun h S4 e4 => ?_, fun h S5 e5 => ?_⟩
  · have h : ¬ (p < n ∧ isbl (w p)) := zb_0.mp h
    have e : skp w n p = p := zrn_f h
    rw [e4, zps_4, zps_u6, e]
    exact ⟨rfl, rfl⟩
  · have h : p < n ∧ isbl (w p) := Classical.not_not.mp (fun z => h (zbz z))
    have e : skp w n p = skp w n (p + 1) := zrn_t h
    rw [e5, zps_4, n_p1, zps_u4, e]
    exact key (n - (p + 1)) (p + 1) rfl (by have := h.1; omega) _ _
theorem r_word0 (hX : TX S w n) (hp : p ≤ n) : rMet E l mX12_word 2 0 [] (zps S C b p dd) (rV (zps S C (Int32.ofNat (skp w n p)) (wen w n p) dd)) := by
  refine r_meth (by decide) (Nat.le_of_ble_eq_true rfl) (by simp [Value.category]) (fun G hK => rwpt_X12_word_0 hK ?_); unfold rwp_X12_word_0
  refine gV (r_blanks0 hX hp) (by decide) ?_
  have key : ∀ m q, n - q = m → q ≤ n → ∀ (A : ZG) k, zW E l mX12_word 2 0 A (rQ G (rV (zps S C (Int32.ofNat (skp w n p)) (zrn islo w n q) dd))) k 4 [some (.ref (zp 416 0))] [] (zput G (zps S C (Int32.ofNat (skp w n p)) q dd)) := by
    intro m
    induction m with
    | zero =>
      intro q hm hq A k
      refine rwpt_X12_word_4 hK ?_; unfold rwp_X12_word_4
      have h : ¬ (q < n ∧ islo (w q)) := fun z => by have := z.1; omega
      refine gI (r_isAt hX hq (by decide) (by decide)) (by decide) (it (zbz h) ?_)
      rw [zrn_f h]
      exact ⟨rfl, rfl⟩
    | succ m ih =>
      intro q hm hq A k
      refine rwpt_X12_word_4 hK ?_; unfold rwp_X12_word_4
      refine gI (r_isAt hX hq (by decide) (by decide)) (by decide) ⟨fun h => ?_, fun h S5 e5 => ?_⟩
      · have h : ¬ (q < n ∧ islo (w q)) := zb_0.mp h
        rw [zrn_f h]
        exact ⟨rfl, rfl⟩
      · have h : q < n ∧ islo (w q) := Classical.not_not.mp (fun z => h (zbz z))
        rw [e5, zps_4, n_p1, zps_u4, zrn_t h]
        exact ih (q + 1) (by omega) (by omega) A _
  exact key _ _ rfl (skp_le hp) _ _
theorem r_isWord {b c : Nat} (hX : TX S w n) (hb : b ≤ p) (hp : p ≤ n) (hc : c < 32) : rMet E l mX12_isWord 6 0 [.ref (zp 1000 c)] (zps S C (Int32.ofNat b) p dd) (rI (zb (wdis w b p c)) (zps S C (Int32.ofNat b) p dd)) := by
  obtain ⟨x1, x2, x3⟩ := hX
  have hlc := zstl_le c hc
  refine r_meth (by decide) (Nat.le_of_ble_eq_true rfl) (by simp [Value.category]) (fun G hK => rwpt_X12_isWord_0 hK ?_); unfold rwp_X12_isWord_0
  refine ⟨c, hc, rfl, by decide, ?_⟩
  rw [zps_4, zps_6, n_sub hb, n_inj (by omega) (by omega)]
  have cinj : ∀ n1 < 32, zp 1000 c = zp 1000 n1 → n1 = c := fun n1 _ e => ((zp_inj (by omega) (by omega) e).2).symm
  -- once it's no word
  have no : ∀ k x3, ¬ wdis w b p c → zW E l mX12_isWord 6 0 (zput G (zps S C (Int32.ofNat b) p dd)) (rQ G (rI (zb (wdis w b p c)) (zps S C (Int32.ofNat b) p dd))) k 24 [some (.ref (zp 416 0)), some (.ref (zp 1000 c)), some (.int 0), some (.int x3)] [] (zput G (zps S C (Int32.ofNat b) p dd)) := by
    intro k x3 h
    refine rwpt_X12_isWord_24 hK ?_; unfold rwp_X12_isWord_24
    exact it rfl ⟨by decide, q0 h⟩
  refine ⟨fun h => no _ _ (fun z => h z.1), fun h => ?_⟩
  have hlen : p - b = zstl c := Classical.not_not.mp h
  have key : ∀ i, i ≤ zstl c → (∀ k, k < i → w (b + k) = zstc c k) → ∀ k, zW E l mX12_isWord 6 0 (zput G (zps S C (Int32.ofNat b) p dd)) (rQ G (rI (zb (wdis w b p c)) (zps S C (Int32.ofNat b) p dd))) k 24 [some (.ref (zp 416 0)), some (.ref (zp 1000 c)), some (.int 1), some (.int (Int32.ofNat i))] [] (zput G (zps S C (Int32.ofNat b) p dd)) := by
    refine zdown (fun hpre k => ?_) (fun i hi ih hpre k => ?_)
    · refine rwpt_X12_isWord_24 hK ?_; unfold rwp_X12_isWord_24
      refine ie (by decide) ⟨c, hc, rfl, by decide, it ?_ ⟨by decide, q1 ⟨hlen, hpre⟩⟩⟩
      rw [n_le (by omega) (by omega)]; omega
    · refine rwpt_X12_isWord_24 hK ?_; unfold rwp_X12_isWord_24
      refine ie (by decide) ⟨c, hc, rfl, by decide, ie ?_ ?_⟩
      · rw [n_le (by omega) (by omega)]; omega
      · have hbi : b + i < n := by omega
        obtain ⟨m, hm, e1, e2⟩ := x3 (b + i) hbi
        have hr := zstc_rg c hc i hi
        rw [zps_6, n_add, n_nn (by omega), n_nn (by omega), zps_o (t := 1602) (by unfold zpx; omega), e1, n_p1]
        refine ⟨n_in (by omega) (by omega), c, hc, rfl, by decide, n_in hi (by omega), fun h2 => no _ _ (fun z => h2 ?_), fun h2 => ih (fun k hk => ?_) _⟩
        · rw [sx_eq hm hr.1 hr.2, ← e2]; exact z.2 i hi
        · by_cases e : k = i
          · rw [e, e2, ← sx_eq hm hr.1 hr.2]; exact Classical.not_not.mp h2
          · exact hpre k (by omega)
  exact key 0 (by omega) (fun k hk => by omega) _
theorem r_passes {c : Nat} (hX : TX S w n) (hp : p ≤ n) (hc : c < 32) : rMet E l mX12_passes 7 0 [.ref (zp 1000 c)] (zps S C b p dd) (rI (zb (wdat w n p c)) (zps S C (Int32.ofNat (skp w n p)) (@ite _ (wdat w n p c) (Classical.propDecidable _) (wen w n p) (skp w n p)) dd)) := by
  refine r_meth (by decide) (Nat.le_of_ble_eq_true rfl) (by simp [Value.category]) (fun G hK => rwpt_X12_passes_0 hK ?_); unfold rwp_X12_passes_0
  refine gV (r_word0 hX hp) (by decide) (gI (r_isWord hX (wen_ge hp) (wen_le hp) hc) (by decide) ⟨fun h S6 e6 => ?_, fun h => ?_⟩)
  · have h : ¬ wdat w n p c := zb_0.mp h
    rw [e6, zps_6, zps_u4, if_neg h]
    exact ⟨by rw [zbz h], rfl⟩
  · have h : wdat w n p c := Classical.not_not.mp (fun z => h (zbz z))
    rw [if_pos h]
    exact ⟨by rw [zb_t h], rfl⟩
theorem r_passesSign {c : Int32} (hX : TX S w n) (hp : p ≤ n) (h1 : 0 ≤ c.toInt) (h2 : c.toInt ≤ 127) : rMet E l mX12_passesSign 2 0 [.int c] (zps S C b p dd) (rI (zb (sgat w n p c)) (zps S C (Int32.ofNat (skp w n p)) (@ite _ (sgat w n p c) (Classical.propDecidable _) (skp w n p + 1) (skp w n p)) dd)) := by
  refine r_meth (by decide) (Nat.le_of_ble_eq_true rfl) (by simp [Value.category]) (fun G hK => rwpt_X12_passesSign_0 hK ?_); unfold rwp_X12_passesSign_0
  refine gV (r_blanks0 hX hp) (by decide) (gI (r_isAt hX (skp_le hp) h1 h2) (by decide) ⟨fun h S6 e6 => ?_, fun h => ?_⟩)
  · have h : sgat w n p c := Classical.not_not.mp (fun z => h (zbz z))
    rw [e6, zps_4, n_p1, zps_u4, if_pos h]
    exact ⟨by rw [zb_t h], rfl⟩
  · have h : ¬ sgat w n p c := zb_0.mp (Classical.not_not.mp h)
    rw [if_neg h]
    exact ⟨by rw [zbz h], rfl⟩
theorem nval_s {b k : Nat} : nval w b (k + 1) = 10 * nval w b k + w (b + k) - 48 := rfl
theorem r_number (hX : TX S w n) (hp : p ≤ n) : rMet E l mX12_number 2 0 [] (zps S C b p dd) (rI (@ite _ (nmok w n p) (Classical.propDecidable _) (nmv w n p) (-1)) (zps S C (Int32.ofNat (skp w n p)) (den w n p) dd)) := by
  have hn4 := hX.2.1
  refine r_meth (by decide) (Nat.le_of_ble_eq_true rfl) (by simp [Value.category]) (fun G hK => rwpt_X12_number_0 hK ?_); unfold rwp_X12_number_0
  refine gV (r_blanks0 hX hp) (by decide) ?_
  have hb := skp_le (w := w) hp
  have ge := den_ge (w := w) hp
  have le := den_le (w := w) hp
  have key : ∀ m q, n - q = m → skp w n p ≤ q → q ≤ n → zrn isdg w n q = den w n p → ∀ k, zW E l mX12_number 2 0 (zput G (zps S C b p dd)) (rQ G (rI (@ite _ (nmok w n p) (Classical.propDecidable _) (nmv w n p) (-1)) (zps S C (Int32.ofNat (skp w n p)) (den w n p) dd))) k 6 [some (.ref (zp 416 0)), some (.int (nval w (skp w n p) (min (q - skp w n p) 4)))] [] (zput G (zps S C (Int32.ofNat (skp w n p)) q dd)) := by
    have fin : ∀ q, zrn isdg w n q = den w n p → skp w n p ≤ q → q ≤ n → ¬ (q < n ∧ isdg (w q)) → ∀ k : Nat, ((Int32.ofNat q = Int32.ofNat (skp w n p) → rI (@ite _ (nmok w n p) (Classical.propDecidable _) (nmv w n p) (-1)) (zps S C (Int32.ofNat (skp w n p)) (den w n p) dd) (some (.int (-1))) (zps S C (Int32.ofNat (skp w n p)) q dd)) ∧ (¬ Int32.ofNat q = Int32.ofNat (skp w n p) → ((Int32.ofNat q - Int32.ofNat (skp w n p) ≤ 4 → rI (@ite _ (nmok w n p) (Classical.propDecidable _) (nmv w n p) (-1)) (zps S C (Int32.ofNat (skp w n p)) (den w n p) dd) (some (.int (nval w (skp w n p) (min (q - skp w n p) 4)))) (zps S C (Int32.ofNat (skp w n p)) q dd)) ∧ (¬ Int32.ofNat q - Int32.ofNat (skp w n p) ≤ 4 → rI (@ite _ (nmok w n p) (Classical.propDecidable _) (nmv w n p) (-1)) (zps S C (Int32.ofNat (skp w n p)) (den w n p) dd) (some (.int (-1))) (zps S C (Int32.ofNat (skp w n p)) q dd))))) := by
      intro q e h1 h2 h3 _
      rw [zrn_f h3] at e
      subst e
      rw [n_inj (by omega) (by omega), n_sub h1, show (4 : Int32) = Int32.ofNat 4 from rfl, n_le (by omega) (by omega)]
      unfold nmok nmv
      refine ⟨fun h => ⟨?_, rfl⟩, fun h => ⟨fun h4 => ⟨?_, rfl⟩, fun h4 => ⟨?_, rfl⟩⟩⟩
      · rw [if_neg (fun z => by have := z.1; omega)]
      · rw [if_pos ⟨by omega, by omega⟩, Nat.min_eq_left h4]
      · rw [if_neg (fun z => by have := z.2; omega)]
    intro m
    induction m with
    | zero =>
      intro q hm h1 h2 e k
      refine rwpt_X12_number_6 hK ?_; unfold rwp_X12_number_6
      have h : ¬ (q < n ∧ isdg (w q)) := fun z => by have := z.1; omega
      refine gI (r_isAt hX h2 (by decide) (by decide)) (by decide) (it (zbz h) ?_)
      rw [zps_4, zps_6]
      exact fin q e h1 h2 h k
    | succ m ih =>
      intro q hm h1 h2 e k
      refine rwpt_X12_number_6 hK ?_; unfold rwp_X12_number_6
      refine gI (r_isAt hX h2 (by decide) (by decide)) (by decide) ⟨fun h => ?_, fun h => ?_⟩
      · rw [zps_4, zps_6]
        exact fin q e h1 h2 (zb_0.mp h) k
      · have h : q < n ∧ isdg (w q) := Classical.not_not.mp (fun z => h (zbz z))
        rw [zrn_t h] at e
        have ih := ih (q + 1) (by omega) (by omega) (by omega) e
        rw [zps_4, zps_6, n_sub h1, show (4 : Int32) = Int32.ofNat 4 from rfl, n_le (by omega) (by omega), n_p1, n_nn (by omega)]
        refine ⟨fun h4 S4 e4 => ?_, fun h4 => ⟨n_in (by omega) (by omega), fun S5 e5 => ?_⟩⟩
        · rw [Nat.min_eq_right (by omega)] at ih ⊢
          rw [e4, zps_u4]; exact ih _
        · obtain ⟨j, hj, e1, e2⟩ := hX.2.2 q h.1
          have hd : sx j = Int32.ofNat j := by
            have e9 := sx_int j hj
            have h9 := h.2
            unfold isdg inn at h9
            rw [e2, i_tl, i_tl, n_toInt (by omega)] at h9
            have c1 : (57 : Int32).toInt = 57 := by decide
            rw [i_te, n_toInt (by omega), e9, if_pos (by omega)]
          rw [Nat.min_eq_left (by omega), show q + 1 - skp w n p = (q - skp w n p) + 1 by omega, nval_s, show skp w n p + (q - skp w n p) = q by omega, e2] at ih
          rw [Nat.min_eq_left (by omega), zps_o (t := 1602) (by unfold zpx; omega), e1, hd, e5, zps_u4]
          exact ih _
  have := key (n - skp w n p) (skp w n p) rfl (Nat.le_refl _) hb rfl
  rw [Nat.sub_self] at this
  exact this _
theorem r_adds {x y z : Int32} (hC : C.length < 400) : rMet E l mX12_adds 0 0 [.int x, .int y, .int z] (zps S C b p dd) (rV (zps S (C ++ [(x, y, z)]) b p dd)) := by
  refine r_meth (by decide) (Nat.le_of_ble_eq_true rfl) (by simp [Value.category]) (fun G hK => rwpt_X12_adds_0 hK ?_); unfold rwp_X12_adds_0
  rw [zps_20, show (4800 : Int32) = Int32.ofNat 4800 from rfl, n_add, n_nn (by omega)]
  refine ⟨n_in (by omega) (by omega), fun S1 e1 => ⟨n_in (by omega) (by omega), fun S2 e2 => ⟨n_in (by omega) (by omega), fun S3 e3 S4 e4 => ⟨rfl, ?_⟩⟩⟩⟩
  rw [e4, e3, e2, e1, zup_ne (a := 416) (by omega), zup_ne (a := 416) (by omega), zup_ne (a := 416) (by omega), zps_20, n_p1, zps_add]
theorem s_fact (i : Nat) (hi : i < 9) {G : ZG} : zMet E l mX12_fact 0 0 [.int (Int32.ofNat i)] G (zRf (zp 1000 (23 + i)) G) := by
  refine z_meth (by decide) (Nat.le_of_ble_eq_true rfl) (by simp [Value.category]) (wpt_X12_fact_0 ?_); unfold wp_X12_fact_0
  match i, hi with
  | 0, _ => simp [zRf]
  | 1, _ => simp [zRf]
  | 2, _ => simp [zRf]
  | 3, _ => simp [zRf]
  | 4, _ => simp [zRf]
  | 5, _ => simp [zRf]
  | 6, _ => simp [zRf]
  | 7, _ => simp [zRf]
  | 8, _ => simp [zRf]
theorem s_item (i : Nat) (hi : i < 8) {G : ZG} : zMet E l mX12_item 0 0 [.int (Int32.ofNat i)] G (zRf (zp 1000 (15 + i)) G) := by
  refine z_meth (by decide) (Nat.le_of_ble_eq_true rfl) (by simp [Value.category]) (wpt_X12_item_0 ?_); unfold wp_X12_item_0
  match i, hi with
  | 0, _ => simp [zRf]
  | 1, _ => simp [zRf]
  | 2, _ => simp [zRf]
  | 3, _ => simp [zRf]
  | 4, _ => simp [zRf]
  | 5, _ => simp [zRf]
  | 6, _ => simp [zRf]
  | 7, _ => simp [zRf]
end ZRp
