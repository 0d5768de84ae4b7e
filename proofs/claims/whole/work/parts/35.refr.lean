/-! the reference reads a law -/
abbrev ZCLS : Type := Int32 × Int32 × List ZCD
noncomputable def zitem (w : Nat → Int32) (n p : Nat) : Nat := zfi (fun i => wdat w n p (15 + i)) 8 0
noncomputable def zsrt (w : Nat → Int32) (n p : Nat) : Nat := zfi (fun i => wdat w n p (9 + i)) 6 0
noncomputable def zClif (w : Nat → Int32) (n q : Nat) (s v : Int32) : Nat ⊕ (Nat × ZCLS) :=
  @ite _ (wdat w n q 2) (Classical.propDecidable _) (match zP w n (4 * n + 3) 3 0 (wen w n q) with
    | .inl e => .inl e
    | .inr (p1, c) => .inr (p1, (s, v, c))) (.inr (skp w n q, (s, v, [])))
noncomputable def zCl (w : Nat → Int32) (n p : Nat) : Nat ⊕ (Nat × ZCLS) :=
  if zsrt w n p = 6 then .inl (skp w n p)
  else if zsrt w n p = 0 then (if zitem w n (wen w n p) = 8 then .inl (skp w n (wen w n p)) else zClif w n (wen w n (wen w n p)) 0 (1 <<< (Int32.ofNat (zitem w n (wen w n p)) &&& 31)))
  else if zsrt w n p = 4 then zClif w n (wen w n p) 4 0
  else @ite _ (nmok w n (wen w n p)) (Classical.propDecidable _) (zClif w n (den w n (wen w n p)) (Int32.ofNat (zsrt w n p)) (nmv w n (wen w n p))) (.inl (skp w n (wen w n p)))
noncomputable def zLw (w : Nat → Int32) (n : Nat) : Nat → Nat → Nat ⊕ List ZCLS
  | 0, p => .inl (skp w n p)
  | r + 1, p => match zCl w n p with
    | .inl e => .inl e
    | .inr (p1, cl) => if skp w n p1 = n then .inr [cl] else @ite _ (sgat w n p1 59) (Classical.propDecidable _) (match zLw w n r (skp w n p1 + 1) with
      | .inl e => .inl e
      | .inr L => .inr (cl :: L)) (.inl (skp w n p1))
noncomputable def zLaw (w : Nat → Int32) (n : Nat) : Nat ⊕ List ZCLS := if skp w n 0 = n then .inr [] else zLw w n 16 (skp w n 0)
def zflat (L : List ZCLS) : List ZCD := L.flatMap (fun c => c.2.2)
def lcl (L : List ZCLS) (m : Nat) : ZCLS := (L[m]?).getD (0, 0, [])
def zoff (L : List ZCLS) (m : Nat) : Nat := (zflat (L.take m)).length
/-- a clause's row -/
def zrow (S : ZS9) (L : List ZCLS) (o m : Nat) : Prop := S 1112 (o + m) = (lcl L m).1 ∧ ((lcl L m).1 ≠ 4 → S 1113 (o + m) = (lcl L m).2.1) ∧ S 1114 (o + m) = Int32.ofNat (zoff L m) ∧ S 1115 (o + m) = Int32.ofNat (zoff L m + (lcl L m).2.2.length)
/-- cells that reading a law changes -/
def zlx (t k : Nat) : Prop := zpx t k ∨ ((t = 1112 ∨ t = 1113 ∨ t = 1114 ∨ t = 1115) ∧ 192 ≤ k)
theorem zlx_scr {t k : Nat} (h : zlx t k) : zscr t k := by unfold zlx zpx at h; unfold zscr; omega
theorem nval_fs {w : Nat → Int32} {b k : Nat} (hk : k ≤ 4) (h : ∀ j, j < k → isdg (w (b + j))) : ∃ v, v < 10000 ∧ nval w b k = Int32.ofNat v := by
  have : ∀ k, k ≤ 4 → (∀ j, j < k → isdg (w (b + j))) → ∃ v, v < 10000 ∧ (k < 4 → v < 1000) ∧ (k < 3 → v < 100) ∧ (k < 2 → v < 10) ∧ (k = 0 → v = 0) ∧ nval w b k = Int32.ofNat v := by
    intro k
    induction k with
    | zero => intro _ _; exact ⟨0, by omega, by omega, by omega, by omega, by omega, rfl⟩
    | succ k ih =>
      intro hk hdg
      obtain ⟨v, v1, v2, v3, v4, v5, v6⟩ := ih (by omega) (fun j hj => hdg j (by omega))
      have h9 := hdg k (by omega)
      unfold isdg inn at h9
      have c1 : (48 : Int32).toInt = 48 := by decide
      have c2 : (57 : Int32).toInt = 57 := by decide
      have c0 : (0 : Int32).toInt = 0 := by decide
      obtain ⟨j, hj, ej⟩ := n_of (x := w (b + k)) (by rw [i_tl, i_tl] at h9; rw [i_tl]; omega)
      rw [ej, i_tl, i_tl, n_toInt hj] at h9
      refine ⟨10 * v + j - 48, by omega, by omega, by omega, by omega, by omega, ?_⟩
      rw [nval_s, v6, ej, show (10 : Int32) = Int32.ofNat 10 from rfl, show (48 : Int32) = Int32.ofNat 48 from rfl, n_mul, n_add, n_sub (by omega)]
  obtain ⟨v, v1, -, -, -, -, v6⟩ := this k hk h
  exact ⟨v, v1, v6⟩
theorem nmv_fs {w : Nat → Int32} {n p : Nat} (hp : p ≤ n) (h : nmok w n p) : ∃ v, v < 10000 ∧ nmv w n p = Int32.ofNat v := by
  have sp := zrn_sp (P := isdg) (w := w) (n := n) _ (skp w n p) rfl (skp_le hp)
  have h1 := h.1
  have h2 := h.2
  exact nval_fs (by omega) (fun j hj => sp.2.2.1 _ (by omega) (by unfold den at hj; omega))
theorem nmv_ge {w : Nat → Int32} {n p : Nat} (hp : p ≤ n) (h : nmok w n p) : (0 : Int32) ≤ nmv w n p := by
  obtain ⟨v, v1, v2⟩ := nmv_fs hp h
  rw [v2, show (0 : Int32) = Int32.ofNat 0 from rfl, n_le (by omega) (by omega)]; omega
theorem zps_up {S : ZS9} {C : List ZCD} {b dd x : Int32} {p t k : Nat} (h : ¬ zpx t k) : zup (zps S C b p dd) t k x = zps (zup S t k x) C b p dd := by
  funext a j
  by_cases h1 : zpx a j
  · rw [zup_ne (by rintro ⟨rfl, rfl⟩; exact h h1)]
    by_cases hS : zps S C b p dd a j = S a j ∧ ¬ zpx a j
    · exact absurd h1 hS.2
    · unfold zps
      have e : zup S t k x a j = S a j := zup_ne (by rintro ⟨rfl, rfl⟩; exact h h1)
      rw [e]
  · rw [zps_o (S := zup S t k x) h1]
    by_cases h2 : a = t ∧ j = k
    · obtain ⟨rfl, rfl⟩ := h2; rw [zup_s, zup_s]
    · rw [zup_ne h2, zup_ne h2, zps_o h1]
theorem TX.up {S : ZS9} {w : Nat → Int32} {n t k : Nat} {x : Int32} (h : TX S w n) (ht : t ≠ 1602 ∧ ¬ (t = 416 ∧ k = 5)) : TX (zup S t k x) w n := by
  obtain ⟨h1, h2, h3⟩ := h
  refine ⟨by rw [zup_ne (by omega)]; exact h1, h2, fun j hj => ?_⟩
  rw [zup_ne (by omega)]; exact h3 j hj
/-- what a clause leaves -/
def QC (S : ZS9) (C : List ZCD) (m : Nat) (r : Nat ⊕ (Nat × ZCLS)) : Int32 → ZS9 → Prop := fun y S' => match r with
  | .inl e => y = 0 ∧ S' 416 6 = Int32.ofNat e ∧ ∀ t k, ¬ zlx t k → S' t k = S t k
  | .inr (p1, cl) => y = 1 ∧ ∃ T b' d', S' = zps T (C ++ cl.2.2) b' p1 d' ∧ T 1112 (192 + m) = cl.1 ∧ (cl.1 ≠ 4 → T 1113 (192 + m) = cl.2.1) ∧ T 1114 (192 + m) = Int32.ofNat C.length ∧ T 1115 (192 + m) = Int32.ofNat (C.length + cl.2.2.length) ∧ ∀ t k, ¬ ((t = 1112 ∨ t = 1113 ∨ t = 1114 ∨ t = 1115) ∧ k = 192 + m) → T t k = S t k
section ZRr
variable {E : ZE} {l : Launch} {S : ZS9} {w : Nat → Int32} {n : Nat}
theorem r_clif (hX : TX S w n) {C : List ZCD} {m q : Nat} (hm : m < 16) (hq : q ≤ n) (hC : C.length ≤ q) {A G : ZG} (hK : RK G) {T : ZS9} {s v b d : Int32} (hT : ∀ t k, ¬ ((t = 1112 ∨ t = 1113 ∨ t = 1114 ∨ t = 1115) ∧ k = 192 + m) → T t k = S t k) (hs : T 1112 (192 + m) = s) (hv : s ≠ 4 → T 1113 (192 + m) = v) : ∀ k,
    zW E l mX12_readClause 50 0 A (rQ G (rX (QC S C m (zClif w n q s v)))) k 209 [some (.ref (zp 416 0)), none, some (.int (Int32.ofNat (192 + m))), none] [] (zput G (zps T C b q d)) := by
  intro k
  have a3 := wen_le (w := w) hq
  have hn4 := hX.2.1
  refine rwpt_X12_readClause_209 hK ?_; unfold rwp_X12_readClause_209
  rw [zps_20, n_nn (by omega)]
  refine ⟨n_in (by omega) (by omega), fun S1 e1 => ?_⟩
  rw [zps_up (by unfold zpx; omega)] at e1
  rw [e1]
  have hT1 : ∀ t k, ¬ ((t = 1112 ∨ t = 1113 ∨ t = 1114 ∨ t = 1115) ∧ k = 192 + m) → zup T 1114 (192 + m) (Int32.ofNat C.length) t k = S t k := fun t k h => by rw [zup_ne (by omega)]; exact hT t k h
  have hX1 : TX (zup T 1114 (192 + m) (Int32.ofNat C.length)) w n := by
    obtain ⟨x1, x2, x3⟩ := hX
    refine ⟨by rw [hT1 _ _ (by omega)]; exact x1, x2, fun j hj => ?_⟩
    rw [hT1 _ _ (by omega)]; exact x3 j hj
  have h14 : zup T 1114 (192 + m) (Int32.ofNat C.length) 1114 (192 + m) = Int32.ofNat C.length := zup_s _ _ _ _
  have h12 : zup T 1114 (192 + m) (Int32.ofNat C.length) 1112 (192 + m) = s := by rw [zup_ne (by omega)]; exact hs
  have h13 : s ≠ 4 → zup T 1114 (192 + m) (Int32.ofNat C.length) 1113 (192 + m) = v := fun h => by rw [zup_ne (by omega)]; exact hv h
  generalize zup T 1114 (192 + m) (Int32.ofNat C.length) = U at *
  -- the clause's end
  have fin : ∀ (c : List ZCD) p1 b' d', QC S C m (.inr (p1, (s, v, c))) 1 (zup (zps U (C ++ c) b' p1 d') 1115 (192 + m) (Int32.ofNat (C ++ c).length)) := by
    intro c p1 b' d'
    rw [zps_up (by unfold zpx; omega)]
    refine ⟨rfl, _, b', d', rfl, by rw [zup_ne (by omega)]; exact h12, fun h => by rw [zup_ne (by omega)]; exact h13 h, by rw [zup_ne (by omega)]; exact h14, by rw [zup_s, List.length_append], fun t k h => ?_⟩
    rw [zup_ne (by omega)]; exact hT1 t k h
  unfold zClif
  refine gI (r_passes (c := 2) hX1 hq (by omega)) (by omega) ⟨fun h => ⟨n_in (by omega) (by omega), fun S5 e5 => ?_⟩, fun h S6 e6 => ?_⟩
  · have h : ¬ wdat w n q 2 := zb_0.mp h
    rw [if_neg h, e5, zps_20, if_neg h]
    have := fin [] (skp w n q) (Int32.ofNat (skp w n q)) d
    rw [List.append_nil] at this
    exact rXq this
  · have h : wdat w n q 2 := Classical.not_not.mp (fun z => h (zbz z))
    have hl := wdat_len hq (by omega) h
    have a1 := skp_ge (w := w) hq
    rw [if_pos h, e6, zps_u7, if_pos h]
    refine gX ((RA_all hX1 (4 * n + 3)).2.2 0 (wen w n q) C _ (by omega) a3 (by omega) (by omega)) (by omega) (fun y S7 hq7 => ?_)
    cases hr : zP w n (4 * n + 3) 3 0 (wen w n q) with
    | inl e =>
      rw [hr] at hq7
      obtain ⟨rfl, q1, q2⟩ := hq7
      refine ie (nn rfl) (rXq ⟨rfl, q1, fun t k h => ?_⟩)
      rw [q2 t k (fun z => h (Or.inl z)), hT1 t k (fun z => h (Or.inr ⟨z.1, by omega⟩))]
    | inr pc =>
      obtain ⟨p1, c⟩ := pc
      rw [hr] at hq7
      obtain ⟨rfl, b', rfl⟩ := hq7
      refine it (by decide) ⟨n_in (by omega) (by omega), fun S10 e10 => ?_⟩
      rw [e10, zps_20]
      exact rXq (fin c p1 b' _)
theorem r_readClause (hX : TX S w n) {C : List ZCD} {m p : Nat} {b d : Int32} (hp : p ≤ n) (hm : m ≤ 16) (hC : C.length ≤ p) : rMet E l mX12_readClause 50 0 [.int (Int32.ofNat m)] (zps S C b p d) (rX (QC S C m (if m = 16 then .inl (skp w n p) else zCl w n p))) := by
  have hn4 := hX.2.1
  have a1 := skp_ge (w := w) hp
  have a2 := skp_le (w := w) hp
  have a3 := wen_le (w := w) hp
  have a4 := wen_ge (w := w) hp
  have b1 := skp_ge (w := w) a3
  have b2 := skp_le (w := w) a3
  have b3 := wen_le (w := w) a3
  have b4 := wen_ge (w := w) a3
  refine r_meth (by decide) (Nat.le_of_ble_eq_true rfl) (by simp [Value.category]) (fun G hK => rwpt_X12_readClause_0 hK ?_); unfold rwp_X12_readClause_0
  refine gV (r_word0 hX hp) (by decide) ?_
  rw [show (16 : Int32) = Int32.ofNat 16 from rfl, n_inj (by omega) (by omega)]
  refine ⟨fun h16 => ?_, fun h16 => ?_⟩
  · rw [if_neg h16, show (192 : Int32) = Int32.ofNat 192 from rfl, n_add]
    -- behind the clause's word
    have cut : ∀ s, s = zsrt w n p → ∀ x, x = (if s = 6 then -1 else Int32.ofNat s) → ∀ k, zW E l mX12_readClause 50 0 (zput G (zps S C b p d)) (rQ G (rX (QC S C m (zCl w n p)))) k 108 [some (.ref (zp 416 0)), none, some (.int (Int32.ofNat (192 + m))), none] [.int x, .int (Int32.ofNat (192 + m)), .ref (zp 1112 0)] (zput G (zps S C (Int32.ofNat (skp w n p)) (wen w n p) d)) := by
      intro s hs x hx k
      have hsle : s ≤ 6 := by have := (zfi_le (W := fun i => wdat w n p (9 + i)) (m := 6) (i := 0)).2; unfold zsrt at hs; omega
      refine rwpt_X12_readClause_108 hK ?_; unfold rwp_X12_readClause_108
      rw [n_nn (by omega)]
      have vv : vp_in (Int32.ofNat (192 + m)) 208 := n_in (by omega) (by omega)
      refine ⟨vv, fun S1 e1 => ?_⟩
      rw [zps_up (by unfold zpx; omega)] at e1
      have hT : ∀ t k, ¬ ((t = 1112 ∨ t = 1113 ∨ t = 1114 ∨ t = 1115) ∧ k = 192 + m) → zup S 1112 (192 + m) x t k = S t k := fun t k h => zup_ne (by omega)
      have hX1 : TX (zup S 1112 (192 + m) x) w n := hX.up (by omega)
      have h12 : zup S 1112 (192 + m) x 1112 (192 + m) = x := zup_s _ _ _ _
      generalize zup S 1112 (192 + m) x = T at *
      have e12 : S1 1112 (192 + m) = x := by rw [e1, zps_o (by unfold zpx; omega)]; exact h12
      rw [e12]
      unfold zCl
      rw [← hs]
      refine ⟨vv, fun hge => ⟨vv, fun h0 => ⟨vv, fun h4 => ?_, fun h4 => ?_⟩, fun h0 => ?_⟩, fun hge => ?_⟩
      · -- see
        have hs4 : s = 4 := by
          by_cases e6 : s = 6
          · rw [if_pos e6] at hx; rw [hx] at h4; exact absurd h4 (by decide)
          · rw [if_neg e6] at hx
            rw [hx, show (4 : Int32) = Int32.ofNat 4 from rfl, n_inj (by omega) (by omega)] at h4; exact h4
        rw [if_neg (by omega), if_neg (by omega), if_pos hs4, e1]
        exact r_clif hX (by omega) a3 (by omega) hK hT (by rw [h12]; exact h4) (fun h => absurd rfl h) _
      · -- a number
        have hs6 : s ≠ 6 := fun e6 => by rw [if_pos e6] at hx; rw [hx] at hge; exact absurd hge (by decide)
        rw [if_neg hs6] at hx
        have hs0 : s ≠ 0 := fun e => h0 (by rw [hx, e]; rfl)
        have hs4 : s ≠ 4 := fun e => h4 (by rw [hx, e]; rfl)
        rw [if_neg hs6, if_neg hs0, if_neg hs4, e1]
        refine gI (r_number hX1 a3) (by decide) ⟨vv, fun S5 e5 => ?_⟩
        rw [zps_up (by unfold zpx; omega)] at e5
        refine ⟨vv, ?_⟩
        have e13 : ∀ z, S5 = zps (zup T 1113 (192 + m) z) C (Int32.ofNat (skp w n (wen w n p))) (den w n (wen w n p)) d → S5 1113 (192 + m) = z := fun z hz => by rw [hz, zps_o (by unfold zpx; omega), zup_s]
        rw [e13 _ e5]
        by_cases hn : nmok w n (wen w n p)
        · rw [if_pos hn] at e5 ⊢
          rw [if_pos hn]
          refine it (nmv_ge a3 hn) ?_
          have d1 := den_ge (w := w) a3
          have d2 := den_le (w := w) a3
          rw [e5]
          exact r_clif hX (by omega) d2 (by omega) hK (fun t k h => by rw [zup_ne (by omega)]; exact hT t k h) (by rw [zup_ne (by omega), h12]; exact hx) (fun _ => zup_s _ _ _ _) _
        · rw [if_neg hn] at e5 ⊢
          rw [if_neg hn]
          refine ie (by decide) (rXq ⟨rfl, ?_, fun t k h => ?_⟩)
          · rw [e5, zps_6]
          · rw [e5, zps_o (fun z => h (Or.inl z)), zup_ne (fun z => h (Or.inr ⟨by omega, by omega⟩)), hT t k (fun z => h (Or.inr ⟨z.1, by omega⟩))]
      · -- an item
        have h0 := Classical.not_not.mp h0
        have hs0 : s = 0 := by
          by_cases e6 : s = 6
          · rw [if_pos e6] at hx; rw [hx] at h0; exact absurd h0 (by decide)
          · rw [if_neg e6] at hx
            rw [hx, show (0 : Int32) = Int32.ofNat 0 from rfl, n_inj (by omega) (by omega)] at h0; exact h0
        rw [if_neg (by omega), if_pos hs0, e1]
        refine gV (r_word0 hX1 a3) (by decide) ?_
        have hle8 : zitem w n (wen w n p) ≤ 8 := by have := (zfi_le (W := fun i => wdat w n (wen w n p) (15 + i)) (m := 8) (i := 0)).2; unfold zitem; omega
        have found : ∀ i, i = zitem w n (wen w n p) → ∀ k, ((¬ Int32.ofNat i = 8 → vp_in (Int32.ofNat (192 + m)) 208 ∧ ∀ S1, S1 = zup (zps T C (Int32.ofNat (skp w n (wen w n p))) (wen w n (wen w n p)) d) 1113 (192 + m) (1 <<< (Int32.ofNat i &&& 31)) → zW E l mX12_readClause 50 0 (zput G (zps S C b p d)) (rQ G (rX (QC S C m (if zitem w n (wen w n p) = 8 then .inl (skp w n (wen w n p)) else zClif w n (wen w n (wen w n p)) 0 (1 <<< (Int32.ofNat (zitem w n (wen w n p)) &&& 31)))))) k 209 [some (.ref (zp 416 0)), none, some (.int (Int32.ofNat (192 + m))), none] [] (zput G S1)) ∧ (¬ (¬ Int32.ofNat i = 8) → rX (QC S C m (if zitem w n (wen w n p) = 8 then .inl (skp w n (wen w n p)) else zClif w n (wen w n (wen w n p)) 0 (1 <<< (Int32.ofNat (zitem w n (wen w n p)) &&& 31)))) (some (.int 0)) (zps T C (Int32.ofNat (skp w n (wen w n p))) (wen w n (wen w n p)) d))) := by
          intro i hi k
          rw [show (8 : Int32) = Int32.ofNat 8 from rfl, n_inj (by omega) (by omega), ← hi]
          refine ⟨fun h8 => ⟨vv, fun S6 e6 => ?_⟩, fun h8 => ?_⟩
          · rw [if_neg h8, e6, zps_up (by unfold zpx; omega)]
            exact r_clif hX (by omega) b3 (by omega) hK (fun t k h => by rw [zup_ne (by omega)]; exact hT t k h) (by rw [zup_ne (by omega), h12, h0]) (fun _ => zup_s _ _ _ _) _
          · rw [if_pos (Classical.not_not.mp h8)]
            refine rXq ⟨rfl, zps_6, fun t k h => ?_⟩
            rw [zps_o (fun z => h (Or.inl z)), hT t k (fun z => h (Or.inr ⟨z.1, by omega⟩))]
        have key : ∀ i, i ≤ 8 → zfi (fun i => wdat w n (wen w n p) (15 + i)) (8 - i) i = zitem w n (wen w n p) → ∀ k, zW E l mX12_readClause 50 0 (zput G (zps S C b p d)) (rQ G (rX (QC S C m (if zitem w n (wen w n p) = 8 then .inl (skp w n (wen w n p)) else zClif w n (wen w n (wen w n p)) 0 (1 <<< (Int32.ofNat (zitem w n (wen w n p)) &&& 31)))))) k 135 [some (.ref (zp 416 0)), none, some (.int (Int32.ofNat (192 + m))), some (.int (Int32.ofNat i))] [] (zput G (zps T C (Int32.ofNat (skp w n (wen w n p))) (wen w n (wen w n p)) d)) := by
          refine zdown (fun he k => ?_) (fun i hi ih he k => ?_)
          · refine rwpt_X12_readClause_135 hK ?_; unfold rwp_X12_readClause_135
            rw [n_nn (by omega)]
            exact it (by decide) (found 8 he _)
          · refine rwpt_X12_readClause_135 hK ?_; unfold rwp_X12_readClause_135
            rw [n_nn (by omega)]
            refine ie (by rw [show (8 : Int32) = Int32.ofNat 8 from rfl, n_le (by omega) (by omega)]; omega) (sR (fun _ => s_item i hi) (by decide) (gI (r_isWord hX1 b4 b3 (by omega)) (by decide) ⟨fun h => ?_, fun h => ?_⟩))
            · have h : wdat w n (wen w n p) (15 + i) := Classical.not_not.mp (fun z => h (zbz z))
              rw [show 8 - i = (8 - (i + 1)) + 1 by omega, zfi_t (W := fun i => wdat w n (wen w n p) (15 + i)) h] at he
              exact found i he _
            · have h : ¬ wdat w n (wen w n p) (15 + i) := zb_0.mp (Classical.not_not.mp h)
              rw [show 8 - i = (8 - (i + 1)) + 1 by omega, zfi_f (W := fun i => wdat w n (wen w n p) (15 + i)) h] at he
              rw [n_p1]
              exact ih he _
        exact key 0 (by omega) rfl _
      · -- no clause
        have hs6 : s = 6 := by
          refine Classical.byContradiction fun e6 => hge ?_
          rw [if_neg e6] at hx
          rw [hx, show (0 : Int32) = Int32.ofNat 0 from rfl, n_le (by omega) (by omega)]; omega
        rw [if_pos hs6]
        refine rXq ⟨rfl, by rw [e1, zps_6], fun t k h => ?_⟩
        rw [e1, zps_o (fun z => h (Or.inl z)), hT t k (fun z => h (Or.inr ⟨z.1, by omega⟩))]
    have wd : ∀ c, c < 32 → ∀ k (K : Int32 → ZS9 → Nat → Prop), (wdat w n p c → K 1 (zps S C (Int32.ofNat (skp w n p)) (wen w n p) d) k) → (¬ wdat w n p c → K 0 (zps S C (Int32.ofNat (skp w n p)) (wen w n p) d) k) → rcI E l mX12_isWord 50 [.ref (zp 1000 c)] (zps S C (Int32.ofNat (skp w n p)) (wen w n p) d) k K := by
      intro c hc k K h1 h0
      refine gI (r_isWord hX a4 a3 hc) (by decide) ?_
      by_cases h : wdat w n p c
      · rw [show zb (wdis w (skp w n p) (wen w n p) c) = 1 from zb_t h]; exact h1 h
      · rw [show zb (wdis w (skp w n p) (wen w n p) c) = 0 from zbz h]; exact h0 h
    have fi : ∀ r, zfi (fun i => wdat w n p (9 + i)) 6 0 = r → zsrt w n p = r := fun r h => h
    have f0 : ¬ wdat w n p 9 → zfi (fun i => wdat w n p (9 + i)) 6 0 = zfi (fun i => wdat w n p (9 + i)) 5 1 := fun h => zfi_f (W := fun i => wdat w n p (9 + i)) h
    have t0 : wdat w n p 9 → zfi (fun i => wdat w n p (9 + i)) 6 0 = 0 := fun h => zfi_t (W := fun i => wdat w n p (9 + i)) h
    have f1 : ¬ wdat w n p 10 → zfi (fun i => wdat w n p (9 + i)) 5 1 = zfi (fun i => wdat w n p (9 + i)) 4 2 := fun h => zfi_f (W := fun i => wdat w n p (9 + i)) h
    have t1 : wdat w n p 10 → zfi (fun i => wdat w n p (9 + i)) 5 1 = 1 := fun h => zfi_t (W := fun i => wdat w n p (9 + i)) h
    have f2 : ¬ wdat w n p 11 → zfi (fun i => wdat w n p (9 + i)) 4 2 = zfi (fun i => wdat w n p (9 + i)) 3 3 := fun h => zfi_f (W := fun i => wdat w n p (9 + i)) h
    have t2 : wdat w n p 11 → zfi (fun i => wdat w n p (9 + i)) 4 2 = 2 := fun h => zfi_t (W := fun i => wdat w n p (9 + i)) h
    have f3 : ¬ wdat w n p 12 → zfi (fun i => wdat w n p (9 + i)) 3 3 = zfi (fun i => wdat w n p (9 + i)) 2 4 := fun h => zfi_f (W := fun i => wdat w n p (9 + i)) h
    have t3 : wdat w n p 12 → zfi (fun i => wdat w n p (9 + i)) 3 3 = 3 := fun h => zfi_t (W := fun i => wdat w n p (9 + i)) h
    have f4 : ¬ wdat w n p 13 → zfi (fun i => wdat w n p (9 + i)) 2 4 = zfi (fun i => wdat w n p (9 + i)) 1 5 := fun h => zfi_f (W := fun i => wdat w n p (9 + i)) h
    have t4 : wdat w n p 13 → zfi (fun i => wdat w n p (9 + i)) 2 4 = 4 := fun h => zfi_t (W := fun i => wdat w n p (9 + i)) h
    have f5 : ¬ wdat w n p 14 → zfi (fun i => wdat w n p (9 + i)) 1 5 = zfi (fun i => wdat w n p (9 + i)) 0 6 := fun h => zfi_f (W := fun i => wdat w n p (9 + i)) h
    have t5 : wdat w n p 14 → zfi (fun i => wdat w n p (9 + i)) 1 5 = 5 := fun h => zfi_t (W := fun i => wdat w n p (9 + i)) h
    refine wd 9 (by omega) _ _ (fun h => ie (by decide) (cut 0 (fi 0 (t0 h)).symm 0 rfl _)) (fun h1 => it rfl ?_)
    refine wd 10 (by omega) _ _ (fun h => ie (by decide) (cut 1 (fi 1 ((f0 h1).trans <| t1 h)).symm 1 rfl _)) (fun h2 => it rfl ?_)
    refine wd 11 (by omega) _ _ (fun h => ie (by decide) (cut 2 (fi 2 ((f0 h1).trans <| (f1 h2).trans <| t2 h)).symm 2 rfl _)) (fun h3 => it rfl ?_)
    refine wd 12 (by omega) _ _ (fun h => ie (by decide) (cut 3 (fi 3 ((f0 h1).trans <| (f1 h2).trans <| (f2 h3).trans <| t3 h)).symm 3 rfl _)) (fun h4 => it rfl ?_)
    refine wd 13 (by omega) _ _ (fun h => ie (by decide) (cut 4 (fi 4 ((f0 h1).trans <| (f1 h2).trans <| (f2 h3).trans <| (f3 h4).trans <| t4 h)).symm 4 rfl _)) (fun h5 => it rfl ?_)
    exact wd 14 (by omega) _ _ (fun h => ie (by decide) (cut 5 (fi 5 ((f0 h1).trans <| (f1 h2).trans <| (f2 h3).trans <| (f3 h4).trans <| (f4 h5).trans <| t5 h)).symm 5 rfl _)) (fun h6 => it rfl (cut 6 (fi 6 ((f0 h1).trans <| (f1 h2).trans <| (f2 h3).trans <| (f3 h4).trans <| (f4 h5).trans <| (f5 h6).trans rfl)).symm (-1) rfl _))
  · rw [if_pos (Classical.not_not.mp h16)]
    exact rXq ⟨rfl, zps_6, fun t k h => zps_o (fun z => h (Or.inl z))⟩
end ZRr
