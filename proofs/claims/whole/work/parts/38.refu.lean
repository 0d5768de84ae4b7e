/-! conditions hold or not; judging -/
/-- a condition's steps fit: with a values before them, b behind -/
def okc : List ZCD → Nat → Nat → Prop
  | [], a, b => a = b
  | c :: r, a, b => (c = zNOT ∧ 1 ≤ a ∧ okc r a b) ∨ ((c = zAND ∨ c = zOR) ∧ 2 ≤ a ∧ okc r (a - 1) b) ∨ ((∃ f, f < 9 ∧ c.1 = Int32.ofNat f) ∧ okc r (a + 1) b)
theorem okc_app : ∀ {c1 c2 : List ZCD} {a m b : Nat}, okc c1 a m → okc c2 m b → okc (c1 ++ c2) a b
  | [], c2, a, m, b, h, h2 => by have : a = m := h; subst this; exact h2
  | c :: r, c2, a, m, b, h, h2 => by
    rcases h with ⟨h1, h3, h4⟩ | ⟨h1, h3, h4⟩ | ⟨h1, h4⟩
    · exact Or.inl ⟨h1, h3, okc_app h4 h2⟩
    · exact Or.inr (Or.inl ⟨h1, h3, okc_app h4 h2⟩)
    · exact Or.inr (Or.inr ⟨h1, okc_app h4 h2⟩)
def zPk (mode : Nat) (r : ZPR) : Prop := match r with
  | .inl _ => True
  | .inr (_, c) => if mode = 2 ∨ mode = 4 then ∀ a, 1 ≤ a → okc c a a else ∀ a, okc c a (a + 1)
theorem zPk_bind {mode m1 : Nat} {r : ZPR} {f : Nat → List ZCD → ZPR} (h : zPk m1 r) (hf : ∀ p1 c1, zPk m1 (.inr (p1, c1)) → zPk mode (f p1 c1)) : zPk mode (pbind r f) := by
  match r, h with
  | .inl e, _ => trivial
  | .inr (p1, c1), h => exact hf p1 c1 h
theorem zPfact_k {w : Nat → Int32} {n p : Nat} : zPk 0 (zPfact w n p) := by
  unfold zPfact
  by_cases h : zfactN w n p = 9
  · rw [if_pos h]; trivial
  · rw [if_neg h]
    have hlt : zfactN w n p < 9 := by have := (zfi_le (W := fun i => wdat w n p (23 + i)) (m := 9) (i := 0)).2; unfold zfactN at *; omega
    have one : ∀ q x y, zPk 0 (.inr (q, [(Int32.ofNat (zfactN w n p), x, y)])) := fun q x y => by
      show ∀ a, okc _ a (a + 1)
      intro a
      exact Or.inr (Or.inr ⟨⟨_, hlt, rfl⟩, rfl⟩)
    by_cases h1 : sgat w n (wen w n p) 60
    · rw [if_pos h1]
      by_cases h2 : nmok w n (skp w n (wen w n p) + 1)
      · rw [if_pos h2]; exact one _ _ _
      · rw [if_neg h2]; trivial
    · rw [if_neg h1]
      by_cases h3 : sgat w n (wen w n p) 62
      · rw [if_pos h3]
        by_cases h2 : nmok w n (skp w n (wen w n p) + 1)
        · rw [if_pos h2]; exact one _ _ _
        · rw [if_neg h2]; trivial
      · rw [if_neg h3]; exact one _ _ _
theorem zP_k {w : Nat → Int32} {n : Nat} : ∀ (f mode dd p : Nat), mode < 5 → zPk mode (zP w n f mode dd p) := by
  intro f
  induction f with
  | zero => intro mode dd p _; trivial
  | succ f ih =>
    intro mode dd p hm
    match mode, hm with
    | 0, _ =>
      rw [zP_atom]
      by_cases h : sgat w n p 40
      · rw [if_pos h]
        by_cases hd : dd = 8
        · rw [if_pos hd]; trivial
        · rw [if_neg hd]
          refine zPk_bind (ih 3 _ _ (by omega)) (fun p1 c1 h1 => ?_)
          unfold zPclose
          by_cases h2 : sgat w n p1 41
          · rw [if_pos h2]; exact h1
          · rw [if_neg h2]; trivial
      · rw [if_neg h]
        by_cases h2 : wdat w n p 3
        · rw [if_pos h2]
          by_cases hd : dd = 8
          · rw [if_pos hd]; trivial
          · rw [if_neg hd]
            refine zPk_bind (ih 0 _ _ (by omega)) (fun p1 c1 h1 => ?_)
            intro a
            exact okc_app (h1 a) (Or.inl ⟨rfl, by omega, rfl⟩)
        · rw [if_neg h2]; exact zPfact_k
    | 1, _ =>
      rw [zP_all]
      refine zPk_bind (ih 0 _ _ (by omega)) (fun p1 c1 h1 => zPk_bind (ih 2 _ _ (by omega)) (fun p2 c2 h2 => ?_))
      intro a
      exact okc_app (h1 a) (h2 (a + 1) (by omega))
    | 2, _ =>
      rw [zP_and]
      by_cases h : wdat w n p 5
      · rw [if_pos h]
        refine zPk_bind (ih 0 _ _ (by omega)) (fun p1 c1 h1 => zPk_bind (ih 2 _ _ (by omega)) (fun p2 c2 h2 => ?_))
        intro a ha
        exact okc_app (h1 a) (Or.inr (Or.inl ⟨Or.inl rfl, by omega, h2 a ha⟩))
      · rw [if_neg h]; intro a _; rfl
    | 3, _ =>
      rw [zP_any]
      refine zPk_bind (ih 1 _ _ (by omega)) (fun p1 c1 h1 => zPk_bind (ih 4 _ _ (by omega)) (fun p2 c2 h2 => ?_))
      intro a
      exact okc_app (h1 a) (h2 (a + 1) (by omega))
    | 4, _ =>
      rw [zP_or]
      by_cases h : wdat w n p 6
      · rw [if_pos h]
        refine zPk_bind (ih 1 _ _ (by omega)) (fun p1 c1 h1 => zPk_bind (ih 4 _ _ (by omega)) (fun p2 c2 h2 => ?_))
        intro a ha
        exact okc_app (h1 a) (Or.inr (Or.inl ⟨Or.inr rfl, by omega, h2 a ha⟩))
      · rw [if_neg h]; intro a _; rfl
/-- the values: the last first -/
def evs (F : Nat → Int32) (c : ZCD) (st : List Bool) : List Bool :=
  if c.1 = 100 then (match st with | x :: r => (!x) :: r | [] => [])
  else if c.1 = 101 then (match st with | x :: y :: r => (y && x) :: r | s => s)
  else if c.1 = 102 then (match st with | x :: y :: r => (y || x) :: r | s => s)
  else (if c.2.1 = 0 then decide (F c.1.toNatClampNeg ≠ 0) else if c.2.1 = 1 then decide (F c.1.toNatClampNeg < c.2.2) else decide (c.2.2 < F c.1.toNatClampNeg)) :: st
def ev (F : Nat → Int32) : List ZCD → List Bool → List Bool
  | [], st => st
  | c :: r, st => ev F r (evs F c st)
def hvs (st : List Bool) : Prop := match st with
  | [] => True
  | x :: _ => x = true
def hv (F : Nat → Int32) (c : List ZCD) : Prop := hvs (ev F c [])
def bI (b : Bool) : Int32 := if b then 1 else 0
def satb (st : List Bool) (k : Nat) : Bool := (st[k]?).getD false
theorem satb_0 (x : Bool) (st : List Bool) : satb (x :: st) 0 = x := rfl
theorem satb_s (x : Bool) (st : List Bool) (k : Nat) : satb (x :: st) (k + 1) = satb st k := rfl
theorem f_small {f : Nat} (hf : f < 9) : ¬ Int32.ofNat f = 100 ∧ Int32.ofNat f < 101 ∧ ¬ Int32.ofNat f = 101 ∧ ¬ Int32.ofNat f = 102 := by
  have : ∀ f, f < 9 → (¬ Int32.ofNat f = 100 ∧ Int32.ofNat f < 101 ∧ ¬ Int32.ofNat f = 101 ∧ ¬ Int32.ofNat f = 102) := by decide
  exact this f hf
section ZRu
variable {E : ZE} {l : Launch} {S : ZS9}
theorem bI0 {b : Bool} : bI b = 0 ↔ b = false := by cases b <;> decide
theorem r_holds {j o : Nat} {c : List ZCD} (hj : j < 13) (ho : o + c.length ≤ 400) (hok : c = [] ∨ okc c 0 1)
    (h6 : ∀ i, i < c.length → S 1116 (400 * j + o + i) = (zcat c i).1 ∧ S 1117 (400 * j + o + i) = (zcat c i).2.1 ∧ S 1118 (400 * j + o + i) = (zcat c i).2.2) :
    rMet E l mX12_holds 0 0 [.int (Int32.ofNat j), .int (Int32.ofNat o), .int (Int32.ofNat (o + c.length))] S (rX (fun y S' => y = zb (hv (S 1121) c) ∧ ∀ t k, t ≠ 2122 → S' t k = S t k)) := by
  have hB : ∃ B, B ≤ 1 ∧ okc c 0 B := by
    rcases hok with h | h
    · exact ⟨0, by omega, by rw [h]; rfl⟩
    · exact ⟨1, Nat.le_refl _, h⟩
  obtain ⟨B, hB1, hB2⟩ := hB
  refine r_meth (by decide) (Nat.le_of_ble_eq_true rfl) (by simp [Value.category]) (fun G hK => rwpt_X12_holds_0 hK ?_); unfold rwp_X12_holds_0
  rw [show (400 : Int32) = Int32.ofNat 400 from rfl, n_mul, n_add]
  have key : ∀ (r d : List ZCD) (st : List Bool), d ++ r = c → st.length ≤ d.length → okc r st.length B → hvs (ev (S 1121) r st) = hv (S 1121) c → ∀ T, (∀ t k, t ≠ 2122 → T t k = S t k) → (∀ i, i < st.length → T 2122 i = bI (satb st (st.length - 1 - i))) → ∀ k, zW E l mX12_holds 0 0 (zput G S) (rQ G (rX (fun y S' => y = zb (hv (S 1121) c) ∧ ∀ t k, t ≠ 2122 → S' t k = S t k))) k 12 [some (.ref (zp 416 0)), some (.int (Int32.ofNat j)), none, some (.int (Int32.ofNat (o + c.length))), some (.int (Int32.ofNat st.length)), some (.int (Int32.ofNat (400 * j + o + d.length))), none] [] (zput G T) := by
    intro r
    induction r with
    | nil =>
      intro d st hd hsd hk he T hT hm k
      have hk : st.length = B := hk
      have hdl : d.length = c.length := by rw [← hd, List.append_nil]
      refine rwpt_X12_holds_12 hK ?_; unfold rwp_X12_holds_12
      rw [show (400 : Int32) = Int32.ofNat 400 from rfl, n_mul, n_add, n_le (by omega) (by omega), show (0 : Int32) = Int32.ofNat 0 from rfl, n_inj (by omega) (by omega)]
      refine it (by omega) ⟨fun h0 => rXq ⟨?_, hT⟩, fun h0 => ⟨n_in (by omega) (by omega), ?_⟩⟩
      · rw [← he, List.length_eq_zero_iff.mp h0]; exact (zb_t trivial).symm
      · match st, hk, h0, hm, he with
        | [], _, h0, _, _ => exact absurd rfl h0
        | x :: st', hk, _, hm, he =>
          have hl : st'.length = 0 := by rw [List.length_cons] at hk; omega
          have e0 := hm 0 (by simp)
          rw [List.length_cons, hl] at e0
          have e0 : T 2122 0 = bI x := e0
          rw [n_nn (by omega), e0, ← show (0 : Int32) = Int32.ofNat 0 from rfl, bI0]
          refine ⟨fun h1 => rXq ⟨?_, hT⟩, fun h1 => rXq ⟨?_, hT⟩⟩
          · rw [← he]; exact (zbz (by show ¬ x = true; rw [h1]; decide)).symm
          · rw [← he]; exact (zb_t (by show x = true; cases x with | true => rfl | false => exact absurd rfl h1)).symm
    | cons cd r ih =>
      intro d st hd hsd hk he T hT hm k
      have hdl : d.length + (r.length + 1) = c.length := by rw [← hd, List.length_append, List.length_cons]
      have hc : zcat c d.length = cd := by rw [← hd, zcat_app, if_neg (by omega), Nat.sub_self]; rfl
      obtain ⟨g6, g7, g8⟩ := h6 d.length (by omega)
      rw [hc] at g6 g7 g8
      have ih := ih (d ++ [cd])
      have hd2 : (d ++ [cd]).length = d.length + 1 := by rw [List.length_append]; rfl
      rw [hd2] at ih
      have n9 : nT S = nT S := rfl
      have vp5 : vp_in (Int32.ofNat (400 * j + o + d.length)) 5200 := n_in (by omega) (by omega)
      refine rwpt_X12_holds_12 hK ?_; unfold rwp_X12_holds_12
      rw [show (400 : Int32) = Int32.ofNat 400 from rfl, n_mul, n_add, n_nn (by omega), hT 1116 _ (by decide), hT 1117 _ (by decide), hT 1118 _ (by decide), g6, g7, g8, n_p1 (400 * j + o + d.length), hT 1121 _ (by decide)]
      refine ie (by rw [n_le (by omega) (by omega)]; omega) ⟨vp5, ?_⟩
      rcases hk with ⟨rfl, h1, h4⟩ | ⟨h0, h1, h4⟩ | ⟨⟨f, hf, ef⟩, h4⟩
      · -- not
        refine ie (nn rfl) ?_
        match st, h1, h4, hm, he, hsd with
        | x :: st', _, h4, hm, he, hsd =>
          have hl : (x :: st').length = st'.length + 1 := rfl
          rw [hl] at hm h4 hsd ⊢
          have e0 := hm st'.length (by omega)
          rw [show st'.length + 1 - 1 - st'.length = 0 by omega, satb_0] at e0
          rw [n_s1, n_nn (by omega), e0, bI0]
          have ih := ih ((!x) :: st') (by rw [← hd]; simp) (by rw [List.length_cons]; omega) h4 he
          have set : ∀ y U, y = bI (!x) → U = zup T 2122 st'.length y → zW E l mX12_holds 0 0 (zput G S) (rQ G (rX (fun y S' => y = zb (hv (S 1121) c) ∧ ∀ t k, t ≠ 2122 → S' t k = S t k))) k 12 [some (.ref (zp 416 0)), some (.int (Int32.ofNat j)), none, some (.int (Int32.ofNat (o + c.length))), some (.int (Int32.ofNat (st'.length + 1))), some (.int (Int32.ofNat (400 * j + o + d.length + 1))), none] [] (zput G U) := by
            intro y U hy hU
            refine ih U (fun t k ht => by rw [hU, zup_ne (by omega)]; exact hT t k ht) (fun i hi => ?_) _
            rw [List.length_cons] at hi ⊢
            by_cases e : i = st'.length
            · subst e; rw [hU, zup_s, hy, show st'.length + 1 - 1 - st'.length = 0 by omega, satb_0]
            · rw [hU, zup_ne (by omega), hm i (by omega), show st'.length + 1 - 1 - i = (st'.length - 1 - i) + 1 by omega, satb_s, satb_s]
          have vv : vp_in (Int32.ofNat st'.length) 400 := n_in (by omega) (by omega)
          refine ⟨vv, fun h9 => ⟨vv, fun U eU => set 0 U ?_ eU⟩, fun h9 => ⟨vv, fun U eU => set 1 U ?_ eU⟩⟩
          · cases x with
            | true => rfl
            | false => exact absurd rfl h9
          · rw [Classical.not_not.mp h9]; rfl
      · -- and, or
        match st, h1, h4, hm, he, hsd with
        | [], h1, _, _, _, _ => exact absurd h1 (by decide)
        | [_], h1, _, _, _, _ => exact absurd h1 (by simp)
        | x :: y :: st', _, h4, hm, he, hsd =>
          have hl : (x :: y :: st').length = st'.length + 2 := rfl
          rw [hl] at hm h4 hsd ⊢
          have ex := hm (st'.length + 1) (by omega)
          rw [show st'.length + 2 - 1 - (st'.length + 1) = 0 by omega, satb_0] at ex
          have ey := hm st'.length (by omega)
          rw [show st'.length + 2 - 1 - st'.length = 0 + 1 by omega, satb_s, satb_0] at ey
          have ea : Int32.ofNat (st'.length + 2) + (-1) = Int32.ofNat (st'.length + 1) := n_m1 _
          rw [ea, n_s1 st'.length, n_nn (a := st'.length) (by omega), n_nn (a := st'.length + 1) (by omega), ex, ey, bI0, bI0]
          have set : ∀ z v U, v = bI z → U = zup T 2122 st'.length v → hvs (ev (S 1121) r (z :: st')) = hv (S 1121) c → zW E l mX12_holds 0 0 (zput G S) (rQ G (rX (fun y S' => y = zb (hv (S 1121) c) ∧ ∀ t k, t ≠ 2122 → S' t k = S t k))) k 12 [some (.ref (zp 416 0)), some (.int (Int32.ofNat j)), none, some (.int (Int32.ofNat (o + c.length))), some (.int (Int32.ofNat (st'.length + 1))), some (.int (Int32.ofNat (400 * j + o + d.length + 1))), none] [] (zput G U) := by
            intro z v U hv' hU he'
            refine ih (z :: st') (by rw [← hd]; simp) (by rw [List.length_cons]; omega) h4 he' U (fun t k ht => by rw [hU, zup_ne (by omega)]; exact hT t k ht) (fun i hi => ?_) _
            rw [List.length_cons] at hi ⊢
            by_cases e : i = st'.length
            · subst e; rw [hU, zup_s, hv', show st'.length + 1 - 1 - st'.length = 0 by omega, satb_0]
            · rw [hU, zup_ne (by omega), hm i (by omega), show st'.length + 2 - 1 - i = (st'.length - 1 - i) + 1 + 1 by omega, satb_s, satb_s, show st'.length + 1 - 1 - i = (st'.length - 1 - i) + 1 by omega, satb_s]
          have vv : vp_in (Int32.ofNat st'.length) 400 := n_in (by omega) (by omega)
          have vv1 : vp_in (Int32.ofNat (st'.length + 1)) 400 := n_in (by omega) (by omega)
          rcases h0 with rfl | rfl
          · refine it (by decide) ⟨vp5, ie (by decide) ⟨vp5, ie (nn rfl) ⟨vv, fun h9 => ⟨vv, fun U eU => set false 0 U rfl eU ?_⟩, fun h9 => ⟨vv1, fun h8 => ⟨vv, fun U eU => set false 0 U rfl eU ?_⟩, fun h8 => ⟨vv, fun U eU => set true 1 U rfl eU ?_⟩⟩⟩⟩⟩
            · rw [h9] at he; exact he
            · rw [h8] at he
              cases y with
              | true => exact he
              | false => exact absurd rfl h9
            · cases x with
              | false => exact absurd rfl h8
              | true =>
                cases y with
                | true => exact he
                | false => exact absurd rfl h9
          · refine it (by decide) ⟨vp5, ie (by decide) ⟨vp5, it (by decide) ⟨vv, fun h9 => ⟨vv, fun U eU => set true 1 U rfl eU ?_⟩, fun h9 => ⟨vv1, fun h8 => ⟨vv, fun U eU => set false 0 U rfl eU ?_⟩, fun h8 => ⟨vv, fun U eU => set true 1 U rfl eU ?_⟩⟩⟩⟩⟩
            · cases y with
              | true => exact he
              | false => exact absurd rfl h9
            · rw [Classical.not_not.mp h9, h8] at he; exact he
            · rw [Classical.not_not.mp h9] at he
              cases x with
              | false => exact absurd rfl h8
              | true => exact he
      · -- a fact
        obtain ⟨k1, k2, k3, k4⟩ := f_small hf
        rw [ef, n_nn (by omega)]
        have ee : ev (S 1121) (cd :: r) st = ev (S 1121) r ((if cd.2.1 = 0 then decide (S 1121 f ≠ 0) else if cd.2.1 = 1 then decide (S 1121 f < cd.2.2) else decide (cd.2.2 < S 1121 f)) :: st) := by
          show ev (S 1121) r (evs (S 1121) cd st) = _
          unfold evs
          rw [ef, if_neg k1, if_neg k3, if_neg k4, n_nn (by omega)]
        rw [ee] at he
        have vv : vp_in (Int32.ofNat st.length) 400 := n_in (by omega) (by omega)
        have set : ∀ z v U, v = bI z → U = zup T 2122 (Int32.ofNat st.length).toNatClampNeg v → (if cd.2.1 = 0 then decide (S 1121 f ≠ 0) else if cd.2.1 = 1 then decide (S 1121 f < cd.2.2) else decide (cd.2.2 < S 1121 f)) = z → zW E l mX12_holds 0 0 (zput G S) (rQ G (rX (fun y S' => y = zb (hv (S 1121) c) ∧ ∀ t k, t ≠ 2122 → S' t k = S t k))) k 12 [some (.ref (zp 416 0)), some (.int (Int32.ofNat j)), none, some (.int (Int32.ofNat (o + c.length))), some (.int (Int32.ofNat st.length + 1)), some (.int (Int32.ofNat (400 * j + o + d.length + 1))), none] [] (zput G U) := by
          intro z v U hv' hU hz
          rw [hz] at he
          rw [n_nn (by omega)] at hU
          rw [n_p1]
          refine ih (z :: st) (by rw [← hd]; simp) (by rw [List.length_cons]; omega) h4 he U (fun t k ht => by rw [hU, zup_ne (by omega)]; exact hT t k ht) (fun i hi => ?_) _
          rw [List.length_cons] at hi ⊢
          by_cases e : i = st.length
          · subst e; rw [hU, zup_s, hv', show st.length + 1 - 1 - st.length = 0 by omega, satb_0]
          · rw [hU, zup_ne (by omega), hm i (by omega), show st.length + 1 - 1 - i = (st.length - 1 - i) + 1 by omega, satb_s]
        refine it k1 ⟨vp5, it k2 ⟨vp5, n_in hf (by omega), vp5, fun c0 => ⟨vp5, fun c1 => ⟨vp5, fun c2 => ⟨vv, fun U eU => set false 0 U rfl eU ?_⟩, fun c2 => ⟨vv, fun U eU => set true 1 U rfl eU ?_⟩⟩, fun c1 => ⟨vp5, fun c2 => ⟨vv, fun U eU => set false 0 U rfl eU ?_⟩, fun c2 => ⟨vv, fun U eU => set true 1 U rfl eU ?_⟩⟩⟩, fun c0 => ⟨fun c2 => ⟨vv, fun U eU => set false 0 U rfl eU ?_⟩, fun c2 => ⟨vv, fun U eU => set true 1 U rfl eU ?_⟩⟩⟩⟩
        · rw [if_neg c0, if_neg c1]; exact decide_eq_false (by rw [i_nlt]; exact c2)
        · rw [if_neg c0, if_neg c1]; exact decide_eq_true (by rw [← i_nle]; exact c2)
        · rw [if_neg c0, if_pos (Classical.not_not.mp c1)]; exact decide_eq_false (by rw [i_nlt]; exact c2)
        · rw [if_neg c0, if_pos (Classical.not_not.mp c1)]; exact decide_eq_true (by rw [← i_nle]; exact c2)
        · rw [if_pos (Classical.not_not.mp c0)]; exact decide_eq_false (nn c2)
        · rw [if_pos (Classical.not_not.mp c0)]; exact decide_eq_true c2
  exact key c [] [] rfl (Nat.le_refl _) hB2 rfl S (fun _ _ _ => rfl) (fun i hi => absurd hi (Nat.not_lt_zero _)) _
end ZRu
