/-! the class's reader of laws: words -/
/-- the words that stand in String constant c: their own constants -/
def wls (c : Nat) : List Nat := if c = 0 then [9, 10, 14, 11, 12, 13] else if c = 1 then [15, 16, 17, 18, 19, 20, 21, 22] else if c = 4 then [23, 24, 25, 26, 27, 28, 29, 30, 31] else [c]
def wof (c k : Nat) : Nat := ((wls c)[k]?).getD 0
/-- where the k-th word begins -/
def wst (c : Nat) : Nat → Nat
  | 0 => 0
  | k + 1 => wst c k + zstl (wof c k) + 1
theorem wls_ck : ∀ c, c < 7 → ∀ k, k < (wls c).length → wof c k < 32 ∧ (∀ j, j < zstl (wof c k) → wst c k + j < zstl c ∧ zstc c (wst c k + j) = zstc (wof c k) j ∧ ¬ zstc c (wst c k + j) = 32) ∧ (k + 1 < (wls c).length → wst c k + zstl (wof c k) < zstl c ∧ zstc c (wst c k + zstl (wof c k)) = 32) ∧ (¬ k + 1 < (wls c).length → wst c k + zstl (wof c k) = zstl c) := by decide +kernel
theorem wls_len : ∀ c, c < 7 → 0 < (wls c).length ∧ (wls c).length ≤ 9 := by decide
theorem zfi_all {W : Nat → Prop} : ∀ {m i : Nat}, (∀ j, i ≤ j → j < i + m → ¬ W j) → zfi W m i = i + m
  | 0, i, _ => rfl
  | m + 1, i, h => by
    rw [zfi_f (h i (by omega) (by omega)), zfi_all (fun j h1 h2 => h j (by omega) (by omega))]
    omega
theorem zfi_cg {W W' : Nat → Prop} : ∀ {m i : Nat}, (∀ j, i ≤ j → j < i + m → (W j ↔ W' j)) → zfi W m i = zfi W' m i
  | 0, i, _ => rfl
  | m + 1, i, h => by
    have h0 := h i (by omega) (by omega)
    by_cases c : W i
    · rw [zfi_t c, zfi_t (h0.mp c)]
    · rw [zfi_f c, zfi_f (fun z => c (h0.mpr z)), zfi_cg (fun j h1 h2 => h j (by omega) (by omega))]
/-- which of the words of c stands first from p on -/
noncomputable def nam (v : Nat → Int32) (n p c : Nat) : Nat := zfi (fun k => wdat v n p (wof c k)) (wls c).length 0
noncomputable def namI (v : Nat → Int32) (n p c : Nat) : Int32 := if nam v n p c = (wls c).length then -1 else Int32.ofNat (nam v n p c)
section ZDf
variable {E : ZE} {l : Launch} {X X' X2 : ZG} {q T Fa n : Nat} {v F : Nat → Int32} {p e : Nat}
theorem wdat_lo {c : Nat} (hc : c < 32) (h : wdat v n p c) (hp : p ≤ n) : skp v n p < n ∧ islo (v (skp v n p)) := by
  have h1 := wdat_len hp hc h
  have h2 := wen_le (w := v) hp
  refine ⟨by omega, ?_⟩
  refine Classical.byContradiction fun z => ?_
  have : wen v n p = skp v n p := zrn_f (fun y => z y.2)
  omega
theorem c_numAmong (h : LE X q T Fa n v F) (hA : AT X q n v p) {c : Nat} (hc : c < 7) : zMet E l mX3_numberAmong 6 0 [.ref q, .ref (zp 1000 c)] X (zI (namI v n p c) X) := by
  have hn := h.n4
  obtain ⟨hp, i2, i7, i8, i6⟩ := hA
  have a2 := skp_le (w := v) hp
  have a3 := wen_ge (w := v) hp
  have a4 := wen_le (w := v) hp
  obtain ⟨hl0, hl9⟩ := wls_len c hc
  have hsl := zstl_le c (by omega)
  have str : ∀ {n1}, zp 1000 c = zp 1000 n1 → c = n1 := fun hh => zp_str hh
  refine z_meth (by decide) (Nat.le_of_ble_eq_true rfl) (by simp [Value.category]) (wpt_X3_numberAmong_0 ?_); unfold wp_X3_numberAmong_0
  rw [i6, i7]
  refine ⟨h.o, fun d => ⟨h.o, ?_⟩, fun d => ⟨?_, rfl⟩⟩
  · have hsn : skp v n p < n := by
      refine Nat.lt_of_le_of_ne a2 (fun z => ?_)
      rw [if_pos z] at d; exact absurd d (by decide)
    rw [if_neg (by omega)] at d
    have hlo := tof_1.mp d
    have i8 : ziv X q 8 = Int32.ofNat (wen v n p) := by rw [i8]; unfold tnx tnd; rw [if_neg (by omega), if_pos hlo]
    have key : ∀ k, k ≤ (wls c).length → k < (wls c).length → zfi (fun k => wdat v n p (wof c k)) ((wls c).length - k) k = nam v n p c → ∀ kk, zW E l mX3_numberAmong 6 0 X (zI (namI v n p c) X) kk 23 [some (.ref q), some (.ref (zp 1000 c)), some (.int (Int32.ofNat k)), some (.int (Int32.ofNat (skp v n p))), some (.int 1), some (.int (Int32.ofNat (wst c k))), none] [] X := by
      refine zdown (fun hk => absurd hk (by omega)) (fun k hk ih _ hz kk => ?_)
      obtain ⟨w1, w2, w3, w4⟩ := wls_ck c hc k hk
      have hwl := zstl_le (wof c k) w1
      rw [show (wls c).length - k = ((wls c).length - (k + 1)) + 1 by omega] at hz
      -- the letters of one word
      have inner : ∀ j, j ≤ zstl (wof c k) → ∀ al kk, ((al = 1 ∧ skp v n p + j ≤ wen v n p ∧ ∀ i, i < j → v (skp v n p + i) = zstc (wof c k) i) ∨ (al = 0 ∧ ¬ (skp v n p + j ≤ wen v n p ∧ ∀ i, i < j → v (skp v n p + i) = zstc (wof c k) i))) → zW E l mX3_numberAmong 6 0 X (zI (namI v n p c) X) kk 23 [some (.ref q), some (.ref (zp 1000 c)), some (.int (Int32.ofNat k)), some (.int (Int32.ofNat (skp v n p + j))), some (.int al), some (.int (Int32.ofNat (wst c k + j))), none] [] X := by
        refine zdown (fun al kk ha => ?_) (fun j hj ih2 al kk ha => ?_)
        · -- the word's end
          have hit : al = 1 → Int32.ofNat (skp v n p + zstl (wof c k)) = Int32.ofNat (wen v n p) → zI (namI v n p c) X (.inl (some (.int (Int32.ofNat k)))) X := fun h1 h2 => by
            rw [n_inj (by omega) (by omega)] at h2
            obtain ⟨-, -, h3⟩ := ha.resolve_right (fun z => by rw [h1] at z; exact absurd z.1 (by decide))
            have hw : wdat v n p (wof c k) := ⟨by omega, h3⟩
            rw [zfi_t (W := fun k => wdat v n p (wof c k)) hw] at hz
            unfold namI
            rw [← hz, if_neg (by omega)]
            exact ⟨rfl, rfl⟩
          have miss : (al = 0 ∨ ¬ Int32.ofNat (skp v n p + zstl (wof c k)) = Int32.ofNat (wen v n p)) → ¬ wdat v n p (wof c k) := fun h1 hw => by
            obtain ⟨y1, y2⟩ := hw
            rcases h1 with h1 | h1
            · rcases ha with ⟨z, -⟩ | ⟨-, z⟩
              · rw [h1] at z; exact absurd z (by decide)
              · exact z ⟨by omega, y2⟩
            · exact h1 (by congr 1; omega)
          have last : ¬ k + 1 < (wls c).length → ¬ wdat v n p (wof c k) → zI (namI v n p c) X (.inl (some (.int (-1)))) X := fun h1 h2 => by
            rw [zfi_f (W := fun k => wdat v n p (wof c k)) h2, show (wls c).length - (k + 1) = 0 by omega] at hz
            have hz : k + 1 = nam v n p c := hz
            unfold namI
            rw [if_pos (by omega)]
            exact ⟨rfl, rfl⟩
          have next : k + 1 < (wls c).length → ¬ wdat v n p (wof c k) → zW E l mX3_numberAmong 6 0 X (zI (namI v n p c) X) kk 23 [some (.ref q), some (.ref (zp 1000 c)), some (.int (Int32.ofNat k + 1)), some (.int (ziv X q 7)), some (.int 1), some (.int (Int32.ofNat (wst c k + zstl (wof c k)) + 1)), none] [] X := fun h1 h2 => by
            rw [zfi_f (W := fun k => wdat v n p (wof c k)) h2] at hz
            rw [i7, n_p1, n_p1]
            exact ih h1 hz kk
          by_cases hk1 : k + 1 < (wls c).length
          · obtain ⟨y1, y2⟩ := w3 hk1
            refine wpt_X3_numberAmong_23 ?_; unfold wp_X3_numberAmong_23
            refine ⟨c, by omega, rfl, h.str (by omega), by decide, ie (by rw [n_le (by omega) (by omega)]; omega) ⟨c, by omega, rfl, h.str (by omega), by decide, n_in y1 (by omega), ?_⟩⟩
            rw [n_nn (by omega), y2, i8]
            refine ⟨fun z => absurd rfl z, fun _ => ⟨fun h1 => ⟨h.o, next hk1 (miss (Or.inl h1))⟩, fun h1 => ⟨h.o, fun h2 => ⟨h.o, next hk1 (miss (Or.inr h2))⟩, fun h2 => hit (ha.elim (·.1) (fun z => absurd z.1 h1)) (Classical.not_not.mp h2)⟩⟩⟩
          · have y1 := w4 hk1
            refine wpt_X3_numberAmong_23 ?_; unfold wp_X3_numberAmong_23
            refine ⟨c, by omega, rfl, h.str (by omega), by decide, it (by rw [n_le (by omega) (by omega)]; omega) ⟨fun h1 => last hk1 (miss (Or.inl h1)), fun h1 => ⟨h.o, ?_⟩⟩⟩
            rw [i8]
            exact ⟨fun h2 => last hk1 (miss (Or.inr h2)), fun h2 => hit (ha.elim (·.1) (fun z => absurd z.1 h1)) (Classical.not_not.mp h2)⟩
        · obtain ⟨y1, y2, y3⟩ := w2 j hj
          have no : ∀ kk, ¬ (skp v n p + (j + 1) ≤ wen v n p ∧ ∀ i, i < j + 1 → v (skp v n p + i) = zstc (wof c k) i) → zW E l mX3_numberAmong 6 0 X (zI (namI v n p c) X) kk 23 [some (.ref q), some (.ref (zp 1000 c)), some (.int (Int32.ofNat k)), some (.int (Int32.ofNat (skp v n p + j) + 1)), some (.int 0), some (.int (Int32.ofNat (wst c k + j) + 1)), none] [] X := fun kk hno => by
            rw [n_p1, n_p1]
            exact ih2 0 kk (Or.inr ⟨rfl, hno⟩)
          refine wpt_X3_numberAmong_23 ?_; unfold wp_X3_numberAmong_23
          refine ⟨c, by omega, rfl, h.str (by omega), by decide, ie (by rw [n_le (by omega) (by omega)]; omega) ⟨c, by omega, rfl, h.str (by omega), by decide, n_in y1 (by omega), ?_⟩⟩
          rw [n_nn (by omega), y2, i8, h.t3, h.tn]
          rw [y2] at y3
          refine ⟨fun _ => ⟨fun h1 => no _ (fun z => ?_), fun h1 => ⟨h.o, fun h2 => no _ (fun z => ?_), fun h2 => ⟨h.o, Or.inl h.ta, ie (by rw [n_le (by omega) (by omega)]; rw [n_le (by omega) (by omega)] at h2; omega) ⟨h.o, Or.inl h.ta, n_in (by rw [n_le (by omega) (by omega)] at h2; omega) (by omega), ?_⟩⟩⟩⟩, fun z => absurd y3 z⟩
          · rcases ha with ⟨y, -⟩ | ⟨-, y⟩
            · rw [h1] at y; exact absurd y (by decide)
            · exact y ⟨by omega, fun i hi => z.2 i (by omega)⟩
          · rw [n_le (by omega) (by omega)] at h2; omega
          · rw [n_le (by omega) (by omega)] at h2
            rw [n_nn (by omega), h.tv (show skp v n p + j < n by omega)]
            obtain ⟨g1, g2, g3⟩ := ha.resolve_right (fun z => h1 z.1)
            refine ⟨fun h3 => no _ (fun z => h3 (z.2 j (by omega))), fun h3 => ?_⟩
            rw [n_p1, n_p1]
            refine ih2 1 _ (Or.inl ⟨rfl, by omega, fun i hi => ?_⟩)
            by_cases ei : i = j
            · rw [ei]; exact Classical.not_not.mp h3
            · exact g3 i (by omega)
      exact inner 0 (by omega) 1 kk (Or.inl ⟨rfl, by omega, fun i hi => by omega⟩)
    exact key 0 (by omega) hl0 rfl _
  · have : nam v n p c = 0 + (wls c).length := zfi_all (fun k _ hk hw => by
      obtain ⟨y1, y2⟩ := wdat_lo (wls_ck c hc k (by omega)).1 hw hp
      rw [if_neg (by omega)] at d
      exact d (tof_1.mpr y2))
    unfold namI
    rw [if_pos (by omega)]
theorem c_numAmongF (h : zob X q 4) (hF : FL X q n e) {c : Nat} : zMet E l mX3_numberAmong 6 0 [.ref q, .ref (zp 1000 c)] X (zI (-1) X) := by
  refine z_meth (by decide) (Nat.le_of_ble_eq_true rfl) (by simp [Value.category]) (wpt_X3_numberAmong_0 ?_); unfold wp_X3_numberAmong_0
  rw [hF.2.2]
  exact ⟨h, fun z => absurd z (by decide), fun _ => ⟨rfl, rfl⟩⟩
theorem c_isWordL (h : LE X q T Fa n v F) (hA : AT X q n v p) {c : Nat} (hc : c = 2 ∨ c = 3 ∨ c = 5 ∨ c = 6) : zMet E l mX3_isWord 7 0 [.ref q, .ref (zp 1000 c)] X (zI (zb (wdat v n p c)) X) := by
  have e0 : wof c 0 = c ∧ (wls c).length = 1 := by rcases hc with rfl | rfl | rfl | rfl <;> decide
  have e1 : namI v n p c = if nam v n p c = 1 then -1 else Int32.ofNat (nam v n p c) := by unfold namI; rw [e0.2]
  have e2 : nam v n p c = zfi (fun k => wdat v n p (wof c k)) 1 0 := by unfold nam; rw [e0.2]
  refine z_meth (by decide) (Nat.le_of_ble_eq_true rfl) (by simp [Value.category]) (wpt_X3_isWord_0 ?_); unfold wp_X3_isWord_0
  refine ⟨h.o, cI (c_numAmong h hA (by omega)) (by decide) ?_⟩
  by_cases hw : wdat v n p c
  · have : nam v n p c = 0 := by rw [e2]; exact zfi_t (W := fun k => wdat v n p (wof c k)) (by rw [e0.1]; exact hw)
    rw [e1, this, zb_t hw]
    exact ⟨fun z => absurd (by decide) z, fun _ => ⟨rfl, rfl⟩⟩
  · have : nam v n p c = 1 := by rw [e2, zfi_f (W := fun k => wdat v n p (wof c k)) (by rw [e0.1]; exact hw)]; rfl
    rw [e1, this, zbz hw]
    exact ⟨fun _ => ⟨rfl, rfl⟩, fun z => absurd (by decide) z⟩
theorem c_isWordF (h : zob X q 4) (hF : FL X q n e) {c : Nat} : zMet E l mX3_isWord 7 0 [.ref q, .ref (zp 1000 c)] X (zI 0 X) := by
  refine z_meth (by decide) (Nat.le_of_ble_eq_true rfl) (by simp [Value.category]) (wpt_X3_isWord_0 ?_); unfold wp_X3_isWord_0
  exact ⟨h, cI (c_numAmongF h hF) (by decide) ⟨fun _ => ⟨rfl, rfl⟩, fun z => absurd (by decide) z⟩⟩
theorem tnx_wd {c : Nat} (hc : c < 32) (hp : p ≤ n) (h : wdat v n p c) : tnx v n p = wen v n p := by
  obtain ⟨h1, h2⟩ := wdat_lo hc h hp
  unfold tnx tnd
  rw [if_neg (by omega), if_pos h2]
end ZDf
