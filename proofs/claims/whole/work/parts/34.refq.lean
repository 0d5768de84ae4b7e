/-! the reference reads a condition -/
def QP (S : ZS9) (C : List ZCD) (r : ZPR) (dd : Int32) : Int32 → ZS9 → Prop := fun y S' => match r with
  | .inl e => y = 0 ∧ S' 416 6 = Int32.ofNat e ∧ ∀ t k, ¬ zpx t k → S' t k = S t k
  | .inr (p1, c) => y = 1 ∧ ∃ b', S' = zps S (C ++ c) b' p1 dd
theorem wen_skp {w : Nat → Int32} {n p : Nat} (hp : p ≤ n) : wen w n (skp w n p) = wen w n p := by unfold wen; rw [skp_id hp]
theorem wdat_skp {w : Nat → Int32} {n p c : Nat} (hp : p ≤ n) : wdat w n (skp w n p) c ↔ wdat w n p c := by unfold wdat; rw [skp_id hp, wen_skp hp]
theorem QPl {S : ZS9} {C : List ZCD} {e p1 : Nat} {dd d2 : Int32} {C2 : List ZCD} : QP S C (.inl e) dd 0 (zps S C2 (Int32.ofNat e) p1 d2) := ⟨rfl, zps_6, fun t k h => zps_o h⟩
theorem QPr {S : ZS9} {C c : List ZCD} {p1 : Nat} {dd b' : Int32} : QP S C (.inr (p1, c)) dd 1 (zps S (C ++ c) b' p1 dd) := ⟨rfl, b', rfl⟩
theorem rXq {P : Int32 → ZS9 → Prop} {y : Int32} {S : ZS9} (h : P y S) : rX P (some (.int y)) S := ⟨y, rfl, h⟩
def RA (E : ZE) (l : Launch) (S : ZS9) (w : Nat → Int32) (n f : Nat) : Prop :=
  (∀ (dd p : Nat) (C : List ZCD) (b : Int32), dd ≤ 8 → p ≤ n → C.length ≤ p → 4 * (n - p) + 1 ≤ f → rMet E l mX12_readAtom (4 * (9 - dd) + 8) 0 [] (zps S C b p (Int32.ofNat dd)) (rX (QP S C (zP w n f 0 dd p) (Int32.ofNat dd)))) ∧
  (∀ (dd p : Nat) (C : List ZCD) (b : Int32), dd ≤ 8 → p ≤ n → C.length ≤ p → 4 * (n - p) + 2 ≤ f → rMet E l mX12_readAllOf (4 * (9 - dd) + 9) 0 [] (zps S C b p (Int32.ofNat dd)) (rX (QP S C (zP w n f 1 dd p) (Int32.ofNat dd)))) ∧
  (∀ (dd p : Nat) (C : List ZCD) (b : Int32), dd ≤ 8 → p ≤ n → C.length ≤ p → 4 * (n - p) + 3 ≤ f → rMet E l mX12_readCond (4 * (9 - dd) + 10) 0 [] (zps S C b p (Int32.ofNat dd)) (rX (QP S C (zP w n f 3 dd p) (Int32.ofNat dd))))
section ZRq
variable {E : ZE} {l : Launch} {S : ZS9} {w : Nat → Int32} {n : Nat}
theorem zP_and {h dd p : Nat} : zP w n (h + 1) 2 dd p = @ite _ (wdat w n p 5) (Classical.propDecidable _) (pbind (zP w n h 0 dd (wen w n p)) (fun p1 c1 => pbind (zP w n h 2 dd p1) (fun p2 c2 => .inr (p2, c1 ++ zAND :: c2)))) (.inr (skp w n p, [])) := rfl
theorem zP_or {h dd p : Nat} : zP w n (h + 1) 4 dd p = @ite _ (wdat w n p 6) (Classical.propDecidable _) (pbind (zP w n h 1 dd (wen w n p)) (fun p1 c1 => pbind (zP w n h 4 dd p1) (fun p2 c2 => .inr (p2, c1 ++ zOR :: c2)))) (.inr (skp w n p, [])) := rfl
theorem zP_all {h dd p : Nat} : zP w n (h + 1) 1 dd p = pbind (zP w n h 0 dd p) (fun p1 c1 => pbind (zP w n h 2 dd p1) (fun p2 c2 => .inr (p2, c1 ++ c2))) := rfl
theorem zP_any {h dd p : Nat} : zP w n (h + 1) 3 dd p = pbind (zP w n h 1 dd p) (fun p1 c1 => pbind (zP w n h 4 dd p1) (fun p2 c2 => .inr (p2, c1 ++ c2))) := rfl
theorem zP_atom {h dd p : Nat} : zP w n (h + 1) 0 dd p = @ite _ (sgat w n p 40) (Classical.propDecidable _) (if dd = 8 then .inl (skp w n p) else pbind (zP w n h 3 (dd + 1) (skp w n p + 1)) (zPclose w n))
        (@ite _ (wdat w n p 3) (Classical.propDecidable _) (if dd = 8 then .inl (skp w n p) else pbind (zP w n h 0 (dd + 1) (wen w n p)) (fun p1 c1 => .inr (p1, c1 ++ [zNOT]))) (zPfact w n p)) := rfl
/-- behind an atom: and .. -/
theorem r_andloop (hX : TX S w n) {f : Nat} (hA : ∀ g, g < f → RA E l S w n g) {dd : Nat} (hdd : dd ≤ 8) (C0 : List ZCD) {A G : ZG} (hK : RK G) : ∀ g, g < f → ∀ (p : Nat) (c0 : List ZCD) (b : Int32) (k : Nat), p ≤ n → (C0 ++ c0).length ≤ p → 4 * (n - p) + 1 ≤ g →
    zW E l mX12_readAllOf (4 * (9 - dd) + 9) 0 A (rQ G (rX (QP S C0 (pbind (zP w n g 2 dd p) (fun p2 c2 => .inr (p2, c0 ++ c2))) (Int32.ofNat dd)))) k 9 [some (.ref (zp 416 0))] [] (zput G (zps S (C0 ++ c0) b p (Int32.ofNat dd))) := by
  intro g
  induction g with
  | zero => intro _ p c0 b k _ _ hf; omega
  | succ h ih =>
    intro hg p c0 b k hp hC hf
    refine rwpt_X12_readAllOf_9 hK ?_; unfold rwp_X12_readAllOf_9
    rw [zP_and]
    refine gI (r_passes (c := 5) hX hp (by omega)) (by omega) ⟨fun hz => ?_, fun hz => ?_⟩
    · have hz := zb_0.mp hz
      rw [if_neg hz, if_neg hz, pb_r, List.append_nil]
      exact rXq QPr
    · have hz : wdat w n p 5 := Classical.not_not.mp (fun z => hz (zbz z))
      have hl := wdat_len hp (by omega) hz
      have a1 := skp_ge (w := w) hp
      have a3 := wen_le (w := w) hp
      rw [if_pos hz, if_pos hz]
      refine gX ((hA h (by omega)).1 dd (wen w n p) (C0 ++ c0) _ hdd a3 (by omega) (by omega)) (by omega) (fun y S4 hq => ?_)
      have hok := zP_ok (w := w) (n := n) h 0 dd (wen w n p) a3 (by omega)
      cases hr : zP w n h 0 dd (wen w n p) with
      | inl e =>
        rw [hr] at hq
        obtain ⟨rfl, q1, q2⟩ := hq
        exact ie (nn rfl) (rXq ⟨rfl, q1, q2⟩)
      | inr pc =>
        obtain ⟨p1, c1⟩ := pc
        rw [hr] at hq hok
        obtain ⟨rfl, b', rfl⟩ := hq
        obtain ⟨o1, o2, o3⟩ := hok
        have hl2 : (C0 ++ c0 ++ c1).length = (C0 ++ c0).length + c1.length := List.length_append
        have hn4 := hX.2.1
        refine it (by decide) (gV (r_adds (by simp only [zlp] at *; omega)) (by omega) ?_)
        have ih := ih (by omega) p1 (c0 ++ c1 ++ [zAND]) b' k o2 (by rw [List.append_assoc c0, ← List.append_assoc C0, ← List.append_assoc (C0 ++ c0), List.length_append, hl2]; simp only [zlp] at *; show _ + 1 ≤ _; omega) (by simp only [zlp] at *; omega)
        have eR : pbind (pbind (.inr (p1, c1)) (fun p1 c1 => pbind (zP w n h 2 dd p1) (fun p2 c2 => .inr (p2, c1 ++ zAND :: c2)))) (fun p2 c2 => .inr (p2, c0 ++ c2)) = pbind (zP w n h 2 dd p1) (fun p2 c2 => .inr (p2, c0 ++ c1 ++ [zAND] ++ c2)) := by
          rw [pb_r]
          cases zP w n h 2 dd p1 with
          | inl e => rfl
          | inr pc =>
            obtain ⟨p2, c2⟩ := pc
            rw [pb_r, pb_r, pb_r]; simp
        rw [eR]
        rw [show C0 ++ (c0 ++ c1 ++ [zAND]) = C0 ++ c0 ++ c1 ++ [(101, 0, 0)] by simp [zAND]] at ih
        exact ih
/-- behind an all: or .. -/
theorem r_orloop (hX : TX S w n) {f : Nat} (hA : ∀ g, g < f → RA E l S w n g) {dd : Nat} (hdd : dd ≤ 8) (C0 : List ZCD) {A G : ZG} (hK : RK G) : ∀ g, g < f → ∀ (p : Nat) (c0 : List ZCD) (b : Int32) (k : Nat), p ≤ n → (C0 ++ c0).length ≤ p → 4 * (n - p) + 1 ≤ g →
    zW E l mX12_readCond (4 * (9 - dd) + 10) 0 A (rQ G (rX (QP S C0 (pbind (zP w n g 4 dd p) (fun p2 c2 => .inr (p2, c0 ++ c2))) (Int32.ofNat dd)))) k 9 [some (.ref (zp 416 0))] [] (zput G (zps S (C0 ++ c0) b p (Int32.ofNat dd))) := by
  intro g
  induction g with
  | zero => intro _ p c0 b k _ _ hf; omega
  | succ h ih =>
    intro hg p c0 b k hp hC hf
    refine rwpt_X12_readCond_9 hK ?_; unfold rwp_X12_readCond_9
    rw [zP_or]
    refine gI (r_passes (c := 6) hX hp (by omega)) (by omega) ⟨fun hz => ?_, fun hz => ?_⟩
    · have hz := zb_0.mp hz
      rw [if_neg hz, if_neg hz, pb_r, List.append_nil]
      exact rXq QPr
    · have hz : wdat w n p 6 := Classical.not_not.mp (fun z => hz (zbz z))
      have hl := wdat_len hp (by omega) hz
      have a1 := skp_ge (w := w) hp
      have a3 := wen_le (w := w) hp
      rw [if_pos hz, if_pos hz]
      refine gX ((hA h (by omega)).2.1 dd (wen w n p) (C0 ++ c0) _ hdd a3 (by omega) (by omega)) (by omega) (fun y S4 hq => ?_)
      have hok := zP_ok (w := w) (n := n) h 1 dd (wen w n p) a3 (by omega)
      cases hr : zP w n h 1 dd (wen w n p) with
      | inl e =>
        rw [hr] at hq
        obtain ⟨rfl, q1, q2⟩ := hq
        exact ie (nn rfl) (rXq ⟨rfl, q1, q2⟩)
      | inr pc =>
        obtain ⟨p1, c1⟩ := pc
        rw [hr] at hq hok
        obtain ⟨rfl, b', rfl⟩ := hq
        obtain ⟨o1, o2, o3⟩ := hok
        have hl2 : (C0 ++ c0 ++ c1).length = (C0 ++ c0).length + c1.length := List.length_append
        have hn4 := hX.2.1
        refine it (by decide) (gV (r_adds (by simp only [zlp] at *; omega)) (by omega) ?_)
        have ih := ih (by omega) p1 (c0 ++ c1 ++ [zOR]) b' k o2 (by rw [List.append_assoc c0, ← List.append_assoc C0, ← List.append_assoc (C0 ++ c0), List.length_append, hl2]; simp only [zlp] at *; show _ + 1 ≤ _; omega) (by simp only [zlp] at *; omega)
        have eR : pbind (pbind (.inr (p1, c1)) (fun p1 c1 => pbind (zP w n h 4 dd p1) (fun p2 c2 => .inr (p2, c1 ++ zOR :: c2)))) (fun p2 c2 => .inr (p2, c0 ++ c2)) = pbind (zP w n h 4 dd p1) (fun p2 c2 => .inr (p2, c0 ++ c1 ++ [zOR] ++ c2)) := by
          rw [pb_r]
          cases zP w n h 4 dd p1 with
          | inl e => rfl
          | inr pc =>
            obtain ⟨p2, c2⟩ := pc
            rw [pb_r, pb_r, pb_r]; simp
        rw [eR]
        rw [show C0 ++ (c0 ++ c1 ++ [zOR]) = C0 ++ c0 ++ c1 ++ [(102, 0, 0)] by simp [zOR]] at ih
        exact ih
/-- a fact -/
theorem r_factrest (hX : TX S w n) {dd p : Nat} {C : List ZCD} (hp : p ≤ n) (hC : C.length ≤ p) {A G : ZG} (hK : RK G) {D : Nat} (hD : 8 ≤ D) : ∀ k, zW E l mX12_readAtom D 0 A (rQ G (rX (QP S C (zPfact w n p) (Int32.ofNat dd)))) k 122 [some (.ref (zp 416 0)), some (.int 0), none, none] [] (zput G (zps S C (Int32.ofNat (skp w n p)) (wen w n p) (Int32.ofNat dd))) := by
  have hn4 := hX.2.1
  have a1 := skp_ge (w := w) hp
  have a2 := skp_le (w := w) hp
  have a3 := wen_le (w := w) hp
  have a4 := skp_ge (w := w) a3
  have a5 := skp_le (w := w) a3
  have i145 : ∀ i, i = zfactN w n p → ∀ k, zW E l mX12_readAtom D 0 A (rQ G (rX (QP S C (zPfact w n p) (Int32.ofNat dd)))) k 145 [some (.ref (zp 416 0)), some (.int (Int32.ofNat i)), none, none] [] (zput G (zps S C (Int32.ofNat (skp w n p)) (wen w n p) (Int32.ofNat dd))) := by
    intro i hi k
    have hle : zfactN w n p ≤ 9 := by have := (zfi_le (W := fun i => wdat w n p (23 + i)) (m := 9) (i := 0)).2; unfold zfactN; omega
    refine rwpt_X12_readAtom_145 hK ?_; unfold rwp_X12_readAtom_145
    rw [show (9 : Int32) = Int32.ofNat 9 from rfl, n_inj (by omega) (by omega)]
    unfold zPfact
    rw [← hi]
    refine ⟨fun h9 => ?_, fun h9 => ?_⟩
    · rw [if_neg h9]
      have hw := zfi_W (W := fun i => wdat w n p (23 + i)) (m := 9) (i := 0) (by unfold zfactN at *; omega)
      have hl := wdat_len hp (by unfold zfactN at *; omega) hw
      refine gV (r_blanks0 hX a3) (by omega) (gI (r_isAt hX a5 (by decide) (by decide)) (by omega) ?_)
      -- with a comparison
      have cmp : ∀ (x : Int32), ¬ x ≤ 0 → skp w n (wen w n p) < n → ∀ R, R = (@ite ZPR (nmok w n (skp w n (wen w n p) + 1)) (Classical.propDecidable _) (.inr (den w n (skp w n (wen w n p) + 1), [(Int32.ofNat i, x, nmv w n (skp w n (wen w n p) + 1))])) (.inl (skp w n (skp w n (wen w n p) + 1)))) → ∀ k, zW E l mX12_readAtom D 0 A (rQ G (rX (QP S C R (Int32.ofNat dd)))) k 203 [some (.ref (zp 416 0)), some (.int (Int32.ofNat i)), some (.int x), none] [] (zput G (zps S C (Int32.ofNat (skp w n (wen w n p))) (skp w n (wen w n p) + 1) (Int32.ofNat dd))) := by
        intro x hx hlt R hR k
        refine rwpt_X12_readAtom_203 hK ?_; unfold rwp_X12_readAtom_203
        refine ie hx (gI (r_number hX (by omega)) (by omega) ?_)
        rw [hR]
        by_cases hn : nmok w n (skp w n (wen w n p) + 1)
        · rw [if_pos hn, if_pos hn]
          have nz : ∀ k, k ≤ 4 → (∀ j, j < k → isdg (w (skp w n (skp w n (wen w n p) + 1) + j))) → ∃ v, v < 10000 ∧ (k < 4 → v < 1000) ∧ (k < 3 → v < 100) ∧ (k < 2 → v < 10) ∧ (k = 0 → v = 0) ∧ nval w (skp w n (skp w n (wen w n p) + 1)) k = Int32.ofNat v := by
            intro k
            induction k with
            | zero => intro _ _; exact ⟨0, by omega, by omega, by omega, by omega, by omega, rfl⟩
            | succ k ih =>
              intro hk hdg
              obtain ⟨v, v1, v2, v3, v4, v5, v6⟩ := ih (by omega) (fun j hj => hdg j (by omega))
              have h9 := hdg k (by omega)
              obtain ⟨j, hj, ej⟩ := n_of (x := w (skp w n (skp w n (wen w n p) + 1) + k)) (by
                unfold isdg inn at h9
                rw [i_tl, i_tl] at h9
                rw [i_tl]
                have : (0 : Int32).toInt = 0 := by decide
                have : (48 : Int32).toInt = 48 := by decide
                omega)
              unfold isdg inn at h9
              rw [ej, i_tl, i_tl, n_toInt hj] at h9
              have c1 : (48 : Int32).toInt = 48 := by decide
              have c2 : (57 : Int32).toInt = 57 := by decide
              refine ⟨10 * v + j - 48, by omega, by omega, by omega, by omega, by omega, ?_⟩
              rw [nval_s, v6, ej, show (10 : Int32) = Int32.ofNat 10 from rfl, show (48 : Int32) = Int32.ofNat 48 from rfl, n_mul, n_add, n_sub (by omega)]
          have sp := zrn_sp (P := isdg) (w := w) (n := n) _ (skp w n (skp w n (wen w n p) + 1)) rfl (skp_le (by omega))
          have b1 := skp_ge (w := w) (n := n) (p := skp w n (wen w n p) + 1) (by omega)
          have b3 := den_le (w := w) (n := n) (p := skp w n (wen w n p) + 1) (by omega)
          have hn1 := hn.1
          have hn2 := hn.2
          obtain ⟨v, v1, -, -, -, -, v6⟩ := nz (den w n (skp w n (wen w n p) + 1) - skp w n (skp w n (wen w n p) + 1)) (by omega) (fun j hj => sp.2.2.1 _ (by omega) (by unfold den at hj; omega))
          have hge : (0 : Int32) ≤ nmv w n (skp w n (wen w n p) + 1) := by
            unfold nmv; rw [v6, show (0 : Int32) = Int32.ofNat 0 from rfl, n_le (by omega) (by omega)]; omega
          exact it hge (gV (r_adds (by omega)) (by omega) (rXq QPr))
        · rw [if_neg hn, if_neg hn]
          exact ie (by decide) (rXq QPl)
      refine ⟨fun hz => ?_, fun hz => ?_⟩
      · have hz : ¬ sgat w n (wen w n p) 60 := zb_0.mp hz
        rw [if_neg hz]
        refine gI (r_isAt hX a5 (by decide) (by decide)) (by omega) ⟨fun hz2 => ?_, fun hz2 => ?_⟩
        · have hz2 : ¬ sgat w n (wen w n p) 62 := zb_0.mp hz2
          rw [if_neg hz2]
          refine it (by decide) ?_
          refine rwpt_X12_readAtom_203 hK ?_; unfold rwp_X12_readAtom_203
          exact it (by decide) (it (by decide) (gV (r_adds (by omega)) (by omega) (rXq QPr)))
        · have hz2 : sgat w n (wen w n p) 62 := Classical.not_not.mp (fun z => hz2 (zbz z))
          rw [if_pos hz2]
          refine ie (by decide) (fun S10 e10 => ?_)
          rw [e10, zps_4, n_p1, zps_u4]
          exact cmp 2 (by decide) hz2.1 _ rfl _
      · have hz : sgat w n (wen w n p) 60 := Classical.not_not.mp (fun z => hz (zbz z))
        rw [if_pos hz]
        refine ie (by decide) (fun S10 e10 => ?_)
        rw [e10, zps_4, n_p1, zps_u4]
        exact cmp 1 (by decide) hz.1 _ rfl _
    · rw [if_pos (Classical.not_not.mp h9)]
      exact rXq QPl
  have key : ∀ i, i ≤ 9 → zfi (fun i => wdat w n p (23 + i)) (9 - i) i = zfactN w n p → ∀ k, zW E l mX12_readAtom D 0 A (rQ G (rX (QP S C (zPfact w n p) (Int32.ofNat dd)))) k 122 [some (.ref (zp 416 0)), some (.int (Int32.ofNat i)), none, none] [] (zput G (zps S C (Int32.ofNat (skp w n p)) (wen w n p) (Int32.ofNat dd))) := by
    refine zdown (fun he k => ?_) (fun i hi ih he k => ?_)
    · refine rwpt_X12_readAtom_122 hK ?_; unfold rwp_X12_readAtom_122
      exact it (by decide) (i145 9 he _)
    · refine rwpt_X12_readAtom_122 hK ?_; unfold rwp_X12_readAtom_122
      refine ie (by rw [show (9 : Int32) = Int32.ofNat 9 from rfl, n_le (by omega) (by omega)]; omega) (sR (fun _ => s_fact i hi) (by omega) (gI (r_isWord hX (wen_ge hp) a3 (by omega)) (by omega) ⟨fun h => ?_, fun h => ?_⟩))
      · have h : wdat w n p (23 + i) := Classical.not_not.mp (fun z => h (zbz z))
        rw [show 9 - i = (9 - (i + 1)) + 1 by omega, zfi_t (W := fun i => wdat w n p (23 + i)) h] at he
        exact i145 i he _
      · have h : ¬ wdat w n p (23 + i) := zb_0.mp (Classical.not_not.mp h)
        rw [show 9 - i = (9 - (i + 1)) + 1 by omega, zfi_f (W := fun i => wdat w n p (23 + i)) h] at he
        rw [n_p1]
        exact ih he _
  exact key 0 (by omega) rfl
theorem RA_all (hX : TX S w n) : ∀ f, RA E l S w n f := by
  intro f
  induction f using Nat.strongRecOn with
  | ind f hA =>
    have hn4 := hX.2.1
    refine ⟨fun dd p C b hdd hp hC hf => ?_, fun dd p C b hdd hp hC hf => ?_, fun dd p C b hdd hp hC hf => ?_⟩
    · obtain ⟨g, rfl⟩ : ∃ g, f = g + 1 := ⟨f - 1, by omega⟩
      have a1 := skp_ge (w := w) hp
      have a2 := skp_le (w := w) hp
      have a3 := wen_le (w := w) hp
      refine r_meth (by decide) (Nat.le_of_ble_eq_true rfl) (by simp [Value.category]) (fun G hK => rwpt_X12_readAtom_0 hK ?_); unfold rwp_X12_readAtom_0
      rw [zP_atom]
      refine gI (r_passesSign (c := 40) hX hp (by decide) (by decide)) (by omega) ⟨fun h => ?_, fun h => ?_⟩
      · have h : ¬ sgat w n p 40 := zb_0.mp h
        rw [if_neg h, if_neg h]
        refine gI (r_passes (c := 3) hX a2 (by omega)) (by omega) ⟨fun h2 => ?_, fun h2 => ?_⟩
        · have h2 : ¬ wdat w n p 3 := fun z => (zb_0.mp h2) ((wdat_skp hp).mpr z)
          rw [if_neg h2, if_neg (fun z => h2 ((wdat_skp hp).mp z)), skp_id hp]
          refine gV (r_word0 hX a2) (by omega) ?_
          rw [skp_id hp, wen_skp hp]
          exact r_factrest hX hp hC hK (by omega) _
        · have h2 : wdat w n p 3 := (wdat_skp hp).mp (Classical.not_not.mp (fun z => h2 (zbz z)))
          have hl := wdat_len hp (by omega) h2
          rw [if_pos h2, if_pos ((wdat_skp hp).mpr h2), skp_id hp, wen_skp hp, zps_7, show (8 : Int32) = Int32.ofNat 8 from rfl, n_inj (by omega) (by omega)]
          refine ⟨fun h8 S9 e9 => ?_, fun h8 => ?_⟩
          · rw [if_neg h8, e9, n_p1, zps_u7]
            refine gX ((hA g (by omega)).1 (dd + 1) (wen w n p) C _ (by omega) a3 (by omega) (by omega)) (by omega) (fun y S4 hq => ?_)
            have hok := zP_ok (w := w) (n := n) g 0 (dd + 1) (wen w n p) a3 (by omega)
            cases hr : zP w n g 0 (dd + 1) (wen w n p) with
            | inl e =>
              rw [hr] at hq
              obtain ⟨rfl, q1, q2⟩ := hq
              exact ie (nn rfl) (rXq ⟨rfl, q1, q2⟩)
            | inr pc =>
              obtain ⟨p1, c1⟩ := pc
              rw [hr] at hq hok
              obtain ⟨rfl, b', rfl⟩ := hq
              obtain ⟨o1, o2, o3⟩ := hok
              refine it (by decide) (fun S13 e13 => ?_)
              rw [e13, zps_7, n_s1, zps_u7]
              refine gV (r_adds (by rw [List.length_append]; omega)) (by omega) ?_
              rw [List.append_assoc]
              exact rXq QPr
          · rw [if_pos (Classical.not_not.mp h8)]
            exact rXq QPl
      · have h : sgat w n p 40 := Classical.not_not.mp (fun z => h (zbz z))
        have hlt := h.1
        rw [if_pos h, if_pos h, zps_7, show (8 : Int32) = Int32.ofNat 8 from rfl, n_inj (by omega) (by omega)]
        refine ⟨fun h8 S16 e16 => ?_, fun h8 => ?_⟩
        · rw [if_neg h8, e16, n_p1, zps_u7]
          refine gX ((hA g (by omega)).2.2 (dd + 1) (skp w n p + 1) C _ (by omega) (by omega) (by omega) (by omega)) (by omega) (fun y S4 hq => ?_)
          have hok := zP_ok (w := w) (n := n) g 3 (dd + 1) (skp w n p + 1) (by omega) (by omega)
          cases hr : zP w n g 3 (dd + 1) (skp w n p + 1) with
          | inl e =>
            rw [hr] at hq
            obtain ⟨rfl, q1, q2⟩ := hq
            exact ie (nn rfl) (rXq ⟨rfl, q1, q2⟩)
          | inr pc =>
            obtain ⟨p1, c1⟩ := pc
            rw [hr] at hq hok
            obtain ⟨rfl, b', rfl⟩ := hq
            obtain ⟨o1, o2, o3⟩ := hok
            refine it (by decide) (fun S20 e20 => ?_)
            rw [e20, zps_7, n_s1, zps_u7, pb_r]
            refine gI (r_passesSign (c := 41) hX o2 (by decide) (by decide)) (by omega) ⟨zb_n, ?_⟩
            unfold zPclose
            by_cases h4 : sgat w n p1 41
            · rw [if_pos h4, if_pos h4, zb_t h4]; exact rXq QPr
            · rw [if_neg h4, if_neg h4, zbz h4]; exact rXq QPl
        · rw [if_pos (Classical.not_not.mp h8)]
          exact rXq QPl
    · obtain ⟨g, rfl⟩ : ∃ g, f = g + 1 := ⟨f - 1, by omega⟩
      refine r_meth (by decide) (Nat.le_of_ble_eq_true rfl) (by simp [Value.category]) (fun G hK => rwpt_X12_readAllOf_0 hK ?_); unfold rwp_X12_readAllOf_0
      rw [zP_all]
      refine gX ((hA g (by omega)).1 dd p C _ hdd hp hC (by omega)) (by omega) (fun y S4 hq => ?_)
      have hok := zP_ok (w := w) (n := n) g 0 dd p hp (by omega)
      cases hr : zP w n g 0 dd p with
      | inl e =>
        rw [hr] at hq
        obtain ⟨rfl, q1, q2⟩ := hq
        exact ie (nn rfl) (rXq ⟨rfl, q1, q2⟩)
      | inr pc =>
        obtain ⟨p1, c1⟩ := pc
        rw [hr] at hq hok
        obtain ⟨rfl, b', rfl⟩ := hq
        obtain ⟨o1, o2, o3⟩ := hok
        refine it (by decide) ?_
        rw [pb_r]
        exact r_andloop hX hA hdd C hK g (by omega) p1 c1 b' _ o2 (by rw [List.length_append]; omega) (by simp only [zlp] at *; omega)
    · obtain ⟨g, rfl⟩ : ∃ g, f = g + 1 := ⟨f - 1, by omega⟩
      refine r_meth (by decide) (Nat.le_of_ble_eq_true rfl) (by simp [Value.category]) (fun G hK => rwpt_X12_readCond_0 hK ?_); unfold rwp_X12_readCond_0
      rw [zP_any]
      refine gX ((hA g (by omega)).2.1 dd p C _ hdd hp hC (by omega)) (by omega) (fun y S4 hq => ?_)
      have hok := zP_ok (w := w) (n := n) g 1 dd p hp (by omega)
      cases hr : zP w n g 1 dd p with
      | inl e =>
        rw [hr] at hq
        obtain ⟨rfl, q1, q2⟩ := hq
        exact ie (nn rfl) (rXq ⟨rfl, q1, q2⟩)
      | inr pc =>
        obtain ⟨p1, c1⟩ := pc
        rw [hr] at hq hok
        obtain ⟨rfl, b', rfl⟩ := hq
        obtain ⟨o1, o2, o3⟩ := hok
        refine it (by decide) ?_
        rw [pb_r]
        exact r_orloop hX hA hdd C hK g (by omega) p1 c1 b' _ o2 (by rw [List.length_append]; omega) (by simp only [zlp] at *; omega)
end ZRq
