/-! THE LAW'S TEXT, purely: w its bytes (0 to 255), n their number -/
noncomputable def zrun (P : Int32 → Prop) (w : Nat → Int32) (n : Nat) : Nat → Nat → Nat
  | 0, p => p
  | f + 1, p => @ite _ (p < n ∧ P (w p)) (Classical.propDecidable _) (zrun P w n f (p + 1)) p
noncomputable def zrn (P : Int32 → Prop) (w : Nat → Int32) (n p : Nat) : Nat := zrun P w n (n - p) p
theorem zrn_t {P : Int32 → Prop} {w : Nat → Int32} {n p : Nat} (h : p < n ∧ P (w p)) : zrn P w n p = zrn P w n (p + 1) := by
  unfold zrn
  rw [show n - p = (n - (p + 1)) + 1 by omega]
  exact if_pos h
theorem zrn_f {P : Int32 → Prop} {w : Nat → Int32} {n p : Nat} (h : ¬ (p < n ∧ P (w p))) : zrn P w n p = p := by
  unfold zrn
  cases n - p with
  | zero => rfl
  | succ m => exact if_neg h
/-- what a run is -/
theorem zrn_sp {P : Int32 → Prop} {w : Nat → Int32} {n : Nat} : ∀ (m p : Nat), n - p = m → p ≤ n → p ≤ zrn P w n p ∧ zrn P w n p ≤ n ∧ (∀ k, p ≤ k → k < zrn P w n p → P (w k)) ∧ ¬ (zrn P w n p < n ∧ P (w (zrn P w n p))) := by
  intro m
  induction m with
  | zero =>
    intro p hm hp
    have h : ¬ (p < n ∧ P (w p)) := fun z => by have := z.1; omega
    rw [zrn_f h]
    exact ⟨Nat.le_refl _, hp, fun k h1 h2 => by omega, h⟩
  | succ m ih =>
    intro p hm hp
    by_cases h : p < n ∧ P (w p)
    · rw [zrn_t h]
      obtain ⟨a1, a2, a3, a4⟩ := ih (p + 1) (by omega) (by omega)
      refine ⟨by omega, a2, fun k h1 h2 => ?_, a4⟩
      by_cases e : k = p
      · rw [e]; exact h.2
      · exact a3 k (by omega) h2
    · rw [zrn_f h]
      exact ⟨Nat.le_refl _, hp, fun k h1 h2 => by omega, h⟩
theorem zrn_ge {P : Int32 → Prop} {w : Nat → Int32} {n p : Nat} (hp : p ≤ n) : p ≤ zrn P w n p := (zrn_sp (P := P) (w := w) _ p rfl hp).1
theorem zrn_le {P : Int32 → Prop} {w : Nat → Int32} {n p : Nat} (hp : p ≤ n) : zrn P w n p ≤ n := (zrn_sp (P := P) (w := w) _ p rfl hp).2.1
theorem zrn_end {P : Int32 → Prop} {w : Nat → Int32} {n p : Nat} (hp : p ≤ n) : ¬ (zrn P w n p < n ∧ P (w (zrn P w n p))) := (zrn_sp (P := P) (w := w) _ p rfl hp).2.2.2
theorem zrn_id {P : Int32 → Prop} {w : Nat → Int32} {n p : Nat} (hp : p ≤ n) : zrn P w n (zrn P w n p) = zrn P w n p := zrn_f (zrn_end hp)
/-- blanks, letters, digits -/
def isbl (c : Int32) : Prop := inn c 32 32
def islo (c : Int32) : Prop := inn c 97 122
def isdg (c : Int32) : Prop := inn c 48 57
noncomputable def skp (w : Nat → Int32) (n p : Nat) : Nat := zrn isbl w n p
noncomputable def wen (w : Nat → Int32) (n p : Nat) : Nat := zrn islo w n (skp w n p)
noncomputable def den (w : Nat → Int32) (n p : Nat) : Nat := zrn isdg w n (skp w n p)
theorem skp_ge {w : Nat → Int32} {n p : Nat} (hp : p ≤ n) : p ≤ skp w n p := zrn_ge hp
theorem skp_le {w : Nat → Int32} {n p : Nat} (hp : p ≤ n) : skp w n p ≤ n := zrn_le hp
theorem skp_id {w : Nat → Int32} {n p : Nat} (hp : p ≤ n) : skp w n (skp w n p) = skp w n p := zrn_id hp
theorem wen_ge {w : Nat → Int32} {n p : Nat} (hp : p ≤ n) : skp w n p ≤ wen w n p := zrn_ge (skp_le hp)
theorem wen_le {w : Nat → Int32} {n p : Nat} (hp : p ≤ n) : wen w n p ≤ n := zrn_le (skp_le hp)
theorem den_ge {w : Nat → Int32} {n p : Nat} (hp : p ≤ n) : skp w n p ≤ den w n p := zrn_ge (skp_le hp)
theorem den_le {w : Nat → Int32} {n p : Nat} (hp : p ≤ n) : den w n p ≤ n := zrn_le (skp_le hp)
/-- the word from b to e is String constant c -/
def wdis (w : Nat → Int32) (b e c : Nat) : Prop := e - b = zstl c ∧ ∀ k, k < zstl c → w (b + k) = zstc c k
def wdat (w : Nat → Int32) (n p c : Nat) : Prop := wdis w (skp w n p) (wen w n p) c
def sgat (w : Nat → Int32) (n p : Nat) (c : Int32) : Prop := skp w n p < n ∧ inn (w (skp w n p)) c c
/-- the number of the digits from b to e -/
def nval (w : Nat → Int32) (b : Nat) : Nat → Int32
  | 0 => 0
  | k + 1 => 10 * nval w b k + w (b + k) - 48
def nmok (w : Nat → Int32) (n p : Nat) : Prop := skp w n p < den w n p ∧ den w n p ≤ skp w n p + 4
noncomputable def nmv (w : Nat → Int32) (n p : Nat) : Int32 := nval w (skp w n p) (den w n p - skp w n p)
/-- the first place for which W holds, m places being left from i on -/
noncomputable def zfi (W : Nat → Prop) : Nat → Nat → Nat
  | 0, i => i
  | m + 1, i => @ite _ (W i) (Classical.propDecidable _) i (zfi W m (i + 1))
theorem zfi_t {W : Nat → Prop} {m i : Nat} (h : W i) : zfi W (m + 1) i = i := if_pos h
theorem zfi_f {W : Nat → Prop} {m i : Nat} (h : ¬ W i) : zfi W (m + 1) i = zfi W m (i + 1) := if_neg h
theorem zfi_le {W : Nat → Prop} : ∀ {m i : Nat}, i ≤ zfi W m i ∧ zfi W m i ≤ i + m
  | 0, i => ⟨Nat.le_refl _, Nat.le_refl _⟩
  | m + 1, i => by
    by_cases h : W i
    · rw [zfi_t h]; omega
    · rw [zfi_f h]; have := zfi_le (W := W) (m := m) (i := i + 1); omega
theorem zfi_W {W : Nat → Prop} : ∀ {m i : Nat}, zfi W m i < i + m → W (zfi W m i)
  | 0, i, h => by unfold zfi at h; omega
  | m + 1, i, h => by
    by_cases hc : W i
    · rw [zfi_t hc]; exact hc
    · rw [zfi_f hc] at h ⊢; exact zfi_W (by omega)
theorem zfi_no {W : Nat → Prop} : ∀ {m i j : Nat}, i ≤ j → j < zfi W m i → ¬ W j
  | 0, i, j, h, h2 => by unfold zfi at h2; omega
  | m + 1, i, j, h, h2 => by
    by_cases hc : W i
    · rw [zfi_t hc] at h2; omega
    · rw [zfi_f hc] at h2
      by_cases e : j = i
      · rw [e]; exact hc
      · exact zfi_no (by omega) h2
/-- one step of a condition: which, how, than -/
abbrev ZCD : Type := Int32 × Int32 × Int32
abbrev ZPR : Type := Nat ⊕ (Nat × List ZCD)
def zNOT : ZCD := (100, 0, 0)
def zAND : ZCD := (101, 0, 0)
def zOR : ZCD := (102, 0, 0)
def pbind (r : ZPR) (f : Nat → List ZCD → ZPR) : ZPR := match r with
  | .inl e => .inl e
  | .inr (p, c) => f p c
noncomputable def zfactN (w : Nat → Int32) (n p : Nat) : Nat := zfi (fun i => wdat w n p (23 + i)) 9 0
/-- a fact, with a comparison or without -/
noncomputable def zPfact (w : Nat → Int32) (n p : Nat) : ZPR :=
  if zfactN w n p = 9 then .inl (skp w n p)
  else @ite _ (sgat w n (wen w n p) 60) (Classical.propDecidable _) (@ite _ (nmok w n (skp w n (wen w n p) + 1)) (Classical.propDecidable _) (.inr (den w n (skp w n (wen w n p) + 1), [(Int32.ofNat (zfactN w n p), 1, nmv w n (skp w n (wen w n p) + 1))])) (.inl (skp w n (skp w n (wen w n p) + 1))))
    (@ite _ (sgat w n (wen w n p) 62) (Classical.propDecidable _) (@ite _ (nmok w n (skp w n (wen w n p) + 1)) (Classical.propDecidable _) (.inr (den w n (skp w n (wen w n p) + 1), [(Int32.ofNat (zfactN w n p), 2, nmv w n (skp w n (wen w n p) + 1))])) (.inl (skp w n (skp w n (wen w n p) + 1))))
      (.inr (skp w n (wen w n p), [(Int32.ofNat (zfactN w n p), 0, 0)])))
/-- what must follow a closed ( -/
noncomputable def zPclose (w : Nat → Int32) (n : Nat) (p : Nat) (c : List ZCD) : ZPR := @ite _ (sgat w n p 41) (Classical.propDecidable _) (.inr (skp w n p + 1, c)) (.inl (skp w n p))
/-- modes: 0 an atom, 1 all, 2 the rest behind an atom of all, 3 any, 4 the rest behind an all of any -/
noncomputable def zP (w : Nat → Int32) (n : Nat) : Nat → Nat → Nat → Nat → ZPR
  | 0, _, _, p => .inl p
  | f + 1, mode, dd, p => match mode with
    | 0 => @ite _ (sgat w n p 40) (Classical.propDecidable _) (if dd = 8 then .inl (skp w n p) else pbind (zP w n f 3 (dd + 1) (skp w n p + 1)) (zPclose w n))
        (@ite _ (wdat w n p 3) (Classical.propDecidable _) (if dd = 8 then .inl (skp w n p) else pbind (zP w n f 0 (dd + 1) (wen w n p)) (fun p1 c1 => .inr (p1, c1 ++ [zNOT]))) (zPfact w n p))
    | 1 => pbind (zP w n f 0 dd p) (fun p1 c1 => pbind (zP w n f 2 dd p1) (fun p2 c2 => .inr (p2, c1 ++ c2)))
    | 2 => @ite _ (wdat w n p 5) (Classical.propDecidable _) (pbind (zP w n f 0 dd (wen w n p)) (fun p1 c1 => pbind (zP w n f 2 dd p1) (fun p2 c2 => .inr (p2, c1 ++ zAND :: c2)))) (.inr (skp w n p, []))
    | 3 => pbind (zP w n f 1 dd p) (fun p1 c1 => pbind (zP w n f 4 dd p1) (fun p2 c2 => .inr (p2, c1 ++ c2)))
    | _ => @ite _ (wdat w n p 6) (Classical.propDecidable _) (pbind (zP w n f 1 dd (wen w n p)) (fun p1 c1 => pbind (zP w n f 4 dd p1) (fun p2 c2 => .inr (p2, c1 ++ zOR :: c2)))) (.inr (skp w n p, []))
/-- fuel that is enough -/
def zrk (mode : Nat) : Nat := match mode with
  | 1 => 2
  | 3 => 3
  | _ => 1
theorem zstl_pos : ∀ c, c < 32 → 2 ≤ zstl c := by decide +kernel
theorem wdat_len {w : Nat → Int32} {n p c : Nat} (hp : p ≤ n) (hc : c < 32) (h : wdat w n p c) : skp w n p + 2 ≤ wen w n p := by
  have h1 := h.1
  have := zstl_pos c hc
  omega
/-- where a condition ends, and how much it tells -/
def zPok (n p : Nat) (lp : Nat) (r : ZPR) : Prop := match r with
  | .inl e => e ≤ n
  | .inr (p1, c) => p + lp ≤ p1 ∧ p1 ≤ n ∧ c.length + p ≤ p1
theorem zPfact_ok {w : Nat → Int32} {n p : Nat} (hp : p ≤ n) : zPok n p 1 (zPfact w n p) := by
  have a1 := skp_ge (w := w) hp
  have a2 := skp_le (w := w) hp
  have a3 := wen_le (w := w) hp
  have a4 := skp_ge (w := w) a3
  have a5 := skp_le (w := w) a3
  unfold zPfact
  by_cases h : zfactN w n p = 9
  · rw [if_pos h]; exact a2
  · rw [if_neg h]
    have hlt : zfactN w n p < 9 := by have := (zfi_le (W := fun i => wdat w n p (23 + i)) (m := 9) (i := 0)).2; unfold zfactN at *; omega
    have hw := zfi_W (W := fun i => wdat w n p (23 + i)) (m := 9) (i := 0) (by unfold zfactN at hlt; omega)
    have hl := wdat_len hp (by unfold zfactN at hlt; omega) hw
    have num : ∀ h c, sgat w n (wen w n p) c → zPok n p 1 (@ite _ (nmok w n (skp w n (wen w n p) + 1)) (Classical.propDecidable _) (.inr (den w n (skp w n (wen w n p) + 1), [(Int32.ofNat (zfactN w n p), h, nmv w n (skp w n (wen w n p) + 1))])) (.inl (skp w n (skp w n (wen w n p) + 1)))) := by
      intro h c hs
      have hs1 := hs.1
      have b1 := skp_ge (w := w) (n := n) (p := skp w n (wen w n p) + 1) (by omega)
      have b2 := den_ge (w := w) (n := n) (p := skp w n (wen w n p) + 1) (by omega)
      have b3 := den_le (w := w) (n := n) (p := skp w n (wen w n p) + 1) (by omega)
      have b4 := skp_le (w := w) (n := n) (p := skp w n (wen w n p) + 1) (by omega)
      by_cases hn : nmok w n (skp w n (wen w n p) + 1)
      · rw [if_pos hn]
        refine ⟨by omega, b3, ?_⟩
        show 1 + p ≤ _
        omega
      · rw [if_neg hn]; exact b4
    by_cases h1 : sgat w n (wen w n p) 60
    · rw [if_pos h1]; exact num _ _ h1
    · rw [if_neg h1]
      by_cases h2 : sgat w n (wen w n p) 62
      · rw [if_pos h2]; exact num _ _ h2
      · rw [if_neg h2]
        refine ⟨by omega, a5, ?_⟩
        show 1 + p ≤ _
        omega
theorem pb_l {e : Nat} {f : Nat → List ZCD → ZPR} : pbind (.inl e) f = .inl e := rfl
theorem pb_r {p : Nat} {c : List ZCD} {f : Nat → List ZCD → ZPR} : pbind (.inr (p, c)) f = f p c := rfl
theorem zPok_bind {n p q lp l1 : Nat} {r : ZPR} {f : Nat → List ZCD → ZPR} (h : zPok n q l1 r) (hf : ∀ p1 c1, r = .inr (p1, c1) → q + l1 ≤ p1 → p1 ≤ n → c1.length + q ≤ p1 → zPok n p lp (f p1 c1)) : zPok n p lp (pbind r f) := by
  match r, h, hf with
  | .inl e, h, _ => exact h
  | .inr (p1, c1), h, hf => exact hf p1 c1 rfl h.1 h.2.1 h.2.2
/-- the least that a mode reads -/
def zlp (mode : Nat) : Nat := match mode with
  | 2 => 0
  | 4 => 0
  | _ => 1
theorem zP_ok {w : Nat → Int32} {n : Nat} : ∀ (f mode dd p : Nat), p ≤ n → mode < 5 → zPok n p (zlp mode) (zP w n f mode dd p) := by
  intro f
  induction f with
  | zero => intro mode dd p hp _; exact hp
  | succ f ih =>
    intro mode dd p hp hm
    have a1 := skp_ge (w := w) hp
    have a2 := skp_le (w := w) hp
    have a3 := wen_le (w := w) hp
    match mode, hm with
    | 0, _ =>
      unfold zP
      by_cases h : sgat w n p 40
      · rw [if_pos h]
        have h1 := h.1
        by_cases hd : dd = 8
        · rw [if_pos hd]; exact a2
        · rw [if_neg hd]
          refine zPok_bind (ih 3 (dd + 1) (skp w n p + 1) (by omega) (by omega)) (fun p1 c1 e b1 b2 b3 => ?_)
          have c1' := skp_ge (w := w) b2
          have c2' := skp_le (w := w) b2
          unfold zPclose
          by_cases h2 : sgat w n p1 41
          · rw [if_pos h2]
            have := h2.1
            exact ⟨by simp only [zlp]; omega, by omega, by omega⟩
          · rw [if_neg h2]; exact c2'
      · rw [if_neg h]
        by_cases h2 : wdat w n p 3
        · rw [if_pos h2]
          have hl := wdat_len hp (by omega) h2
          by_cases hd : dd = 8
          · rw [if_pos hd]; exact a2
          · rw [if_neg hd]
            refine zPok_bind (ih 0 (dd + 1) (wen w n p) a3 (by omega)) (fun p1 c1 e b1 b2 b3 => ⟨by simp only [zlp] at *; omega, b2, ?_⟩)
            rw [List.length_append]; show c1.length + 1 + p ≤ p1; omega
        · rw [if_neg h2]; exact zPfact_ok hp
    | 1, _ =>
      unfold zP
      refine zPok_bind (ih 0 dd p hp (by omega)) (fun p1 c1 e b1 b2 b3 => zPok_bind (ih 2 dd p1 b2 (by omega)) (fun p2 c2 e d1 d2 d3 => ⟨by simp only [zlp] at *; omega, d2, ?_⟩))
      rw [List.length_append]; omega
    | 2, _ =>
      unfold zP
      by_cases h : wdat w n p 5
      · rw [if_pos h]
        have hl := wdat_len hp (by omega) h
        refine zPok_bind (ih 0 dd (wen w n p) a3 (by omega)) (fun p1 c1 e b1 b2 b3 => zPok_bind (ih 2 dd p1 b2 (by omega)) (fun p2 c2 e d1 d2 d3 => ⟨by simp only [zlp] at *; omega, d2, ?_⟩))
        rw [List.length_append, List.length_cons]; omega
      · rw [if_neg h]; exact ⟨by simp only [zlp]; omega, a2, by show 0 + p ≤ _; omega⟩
    | 3, _ =>
      unfold zP
      refine zPok_bind (ih 1 dd p hp (by omega)) (fun p1 c1 e b1 b2 b3 => zPok_bind (ih 4 dd p1 b2 (by omega)) (fun p2 c2 e d1 d2 d3 => ⟨by simp only [zlp] at *; omega, d2, ?_⟩))
      rw [List.length_append]; omega
    | 4, _ =>
      unfold zP
      by_cases h : wdat w n p 6
      · rw [if_pos h]
        have hl := wdat_len hp (by omega) h
        refine zPok_bind (ih 1 dd (wen w n p) a3 (by omega)) (fun p1 c1 e b1 b2 b3 => zPok_bind (ih 4 dd p1 b2 (by omega)) (fun p2 c2 e d1 d2 d3 => ⟨by simp only [zlp] at *; omega, d2, ?_⟩))
        rw [List.length_append, List.length_cons]; omega
      · rw [if_neg h]; exact ⟨by simp only [zlp]; omega, a2, by show 0 + p ≤ _; omega⟩
