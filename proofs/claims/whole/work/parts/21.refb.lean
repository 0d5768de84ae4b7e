/-! the reference's methods that only look -/
def zfarN (S : ZS9) (p q : Nat) : Nat → Int32
  | 0 => 0
  | k + 1 => zfarN S p q k + (S 1131 (5 * p + k) - S 1131 (5 * q + k)) * (S 1131 (5 * p + k) - S 1131 (5 * q + k))
def zfar (S : ZS9) (p q : Nat) : Int32 := zfarN S p q 5
/-- booklet b is one of x, valid on a day -/
def zval (S : ZS9) (x day : Int32) (b : Nat) : Prop := S 1167 b = x ∧ ¬ day < S 1168 b ∧ ¬ S 1169 b ≤ day
/-- the law of a day among the first n -/
noncomputable def zlaw (S : ZS9) (day : Int32) : Nat → Option Nat
  | 0 => none
  | n + 1 => @ite _ (¬ day < S 1110 n ∧ ∀ b, zlaw S day n = some b → ¬ S 1110 n < S 1110 b) (Classical.propDecidable _) (some n) (zlaw S day n)
def zopt (o : Option Nat) : Int32 := match o with
  | none => -1
  | some b => Int32.ofNat b
theorem zlaw_lt {S : ZS9} {day : Int32} : ∀ {n b : Nat}, zlaw S day n = some b → b < n
  | 0, b, h => nomatch h
  | n + 1, b, h => by
    unfold zlaw at h
    by_cases hc : ¬ day < S 1110 n ∧ ∀ b, zlaw S day n = some b → ¬ S 1110 n < S 1110 b
    · rw [if_pos hc] at h; cases h; omega
    · rw [if_neg hc] at h; have := zlaw_lt h; omega
theorem zlaw_t {S : ZS9} {day : Int32} {n : Nat} (h : ¬ day < S 1110 n ∧ ∀ b, zlaw S day n = some b → ¬ S 1110 n < S 1110 b) : zlaw S day (n + 1) = some n := by
  unfold zlaw
  rw [if_pos h]
theorem zlaw_f {S : ZS9} {day : Int32} {n : Nat} (h : ¬ (¬ day < S 1110 n ∧ ∀ b, zlaw S day n = some b → ¬ S 1110 n < S 1110 b)) : zlaw S day (n + 1) = zlaw S day n := by
  conv => lhs; unfold zlaw
  rw [if_neg h]
theorem zopt_neg {o : Option Nat} (hb : ∀ b, o = some b → b < 2147483648) : zopt o < 0 ↔ o = none := by
  cases o with
  | none => exact ⟨fun _ => rfl, fun _ => by decide⟩
  | some b => exact ⟨fun h => absurd h (n_neg (hb b rfl)), fun h => nomatch h⟩
/-- what a lent row gives a desk on a day -/
def zlends (S : ZS9) (desk day : Int32) (k : Nat) : Prop := S 1147 k = desk ∧ inn day (S 1149 k) (S 1150 k)
noncomputable def zunN (S : ZS9) (desk day : Int32) (u : Int32) : Nat → Int32
  | 0 => u
  | k + 1 => @ite _ (zlends S desk day k) (Classical.propDecidable _) (zunN S desk day u k + (if S 1151 k ≤ day - S 1149 k then 8 * S 1148 k else (-2) * S 1148 k)) (zunN S desk day u k)
noncomputable def zunits (S : ZS9) (desk : Nat) (day : Int32) (n : Nat) : Int32 := if 0 < zunN S (Int32.ofNat desk) day (8 * S 1146 desk) n then zunN S (Int32.ofNat desk) day (8 * S 1146 desk) n else 0
/-- may a booklet be printed -/
def zcan (S : ZS9) : Prop := ¬ S 416 43 ≤ 0 ∧ ¬ inn (S 416 1) (S 416 44) (S 416 45) ∧ ¬ 150 ≤ S 416 71
noncomputable def ztakes (S : ZS9) (desk a : Nat) : Int32 := if desk = 0 then (if 0 ≤ S 1165 (7 * a + 2) then 1 else 2) else if desk = 1 then 3 + S 1162 a else if desk = 2 then 6 else 1
section ZRb
variable {E : ZE} {l : Launch} {S : ZS9}
theorem r_farOf {p q : Nat} (hp : p < 80) (hq : q < 80) : rMet E l mX12_farOf 0 0 [.int (Int32.ofNat p), .int (Int32.ofNat q)] S (rI (zfar S p q) S) := by
  refine r_meth (by decide) (Nat.le_of_ble_eq_true rfl) (by simp [Value.category]) (fun G hK => rwpt_X12_farOf_0 hK ?_); unfold rwp_X12_farOf_0
  have key : ∀ i, i ≤ 5 → ∀ k, zW E l mX12_farOf 0 0 (zput G S) (rQ G (rI (zfar S p q) S)) k 5 [some (.ref (zp 416 0)), some (.int (Int32.ofNat p)), some (.int (Int32.ofNat q)), some (.int (zfarN S p q i)), some (.int (Int32.ofNat i)), none] [] (zput G S) := by
    refine zdown (fun k => ?_) (fun i hi ih k => ?_)
    · refine rwpt_X12_farOf_5 hK ?_; unfold rwp_X12_farOf_5
      exact it (by decide) ⟨rfl, rfl⟩
    · refine rwpt_X12_farOf_5 hK ?_; unfold rwp_X12_farOf_5
      refine ie (by rw [show (5 : Int32) = Int32.ofNat 5 from rfl, n_le (by omega) (by omega)]; omega) ?_
      rw [show (5 : Int32) = Int32.ofNat 5 from rfl, n_mul, n_add, n_mul, n_add, n_nn (by omega), n_nn (by omega), n_p1]
      exact ⟨n_in (by omega) (by omega), n_in (by omega) (by omega), ih k⟩
  exact key 0 (by omega) _
theorem r_validOf {n : Nat} {x day : Int32} (hn : S 416 71 = Int32.ofNat n) (hl : n ≤ 150) : rMet E l mX12_validOf 0 0 [.int x, .int day] S (rI (zcnt (zval S x day) n) S) := by
  refine r_meth (by decide) (Nat.le_of_ble_eq_true rfl) (by simp [Value.category]) (fun G hK => rwpt_X12_validOf_0 hK ?_); unfold rwp_X12_validOf_0
  have key : ∀ i, i ≤ n → ∀ k, zW E l mX12_validOf 0 0 (zput G S) (rQ G (rI (zcnt (zval S x day) n) S)) k 5 [some (.ref (zp 416 0)), some (.int x), some (.int day), some (.int (zcnt (zval S x day) i)), some (.int (Int32.ofNat i))] [] (zput G S) := by
    refine zdown (fun k => ?_) (fun i hi ih k => ?_)
    · refine rwpt_X12_validOf_5 hK ?_; unfold rwp_X12_validOf_5
      refine it (by rw [hn, n_le (by omega) (by omega)]; omega) ⟨rfl, rfl⟩
    · refine rwpt_X12_validOf_5 hK ?_; unfold rwp_X12_validOf_5
      refine ie (by rw [hn, n_le (by omega) (by omega)]; omega) ⟨n_in (by omega) (by omega), ?_⟩
      have ih := ih k
      rw [n_nn (by omega), n_p1, Int32.add_zero]
      by_cases h : zval S x day i
      · rw [zcnt_t h] at ih
        exact ie (nn h.1) ⟨n_in (by omega) (by omega), ie h.2.1 ⟨n_in (by omega) (by omega), ie h.2.2 ih⟩⟩
      · rw [zcnt_f h] at ih
        refine ⟨fun _ => ih, fun h1 => ⟨n_in (by omega) (by omega), fun _ => ih, fun h2 => ⟨n_in (by omega) (by omega), fun _ => ih, fun h3 => ?_⟩⟩⟩
        exact absurd ⟨Classical.not_not.mp h1, h2, h3⟩ h
  exact key 0 (by omega) _
theorem r_inState {n : Nat} {lo hi : Int32} (hn : S 416 66 = Int32.ofNat n) (hl : n ≤ 120) : rMet E l mX12_inState 1 0 [.int lo, .int hi] S (rI (zcnt (fun a => inn (S 1165 (7 * a + 0)) lo hi) n) S) := by
  refine r_meth (by decide) (Nat.le_of_ble_eq_true rfl) (by simp [Value.category]) (fun G hK => rwpt_X12_inState_0 hK ?_); unfold rwp_X12_inState_0
  have key : ∀ i, i ≤ n → ∀ k, zW E l mX12_inState 1 0 (zput G S) (rQ G (rI (zcnt (fun a => inn (S 1165 (7 * a + 0)) lo hi) n) S)) k 5 [some (.ref (zp 416 0)), some (.int lo), some (.int hi), some (.int (zcnt (fun a => inn (S 1165 (7 * a + 0)) lo hi) i)), some (.int (Int32.ofNat i))] [] (zput G S) := by
    refine zdown (fun k => ?_) (fun i hi ih k => ?_)
    · refine rwpt_X12_inState_5 hK ?_; unfold rwp_X12_inState_5
      refine it (by rw [hn, n_le (by omega) (by omega)]; omega) ⟨rfl, rfl⟩
    · refine rwpt_X12_inState_5 hK ?_; unfold rwp_X12_inState_5
      refine ie (by rw [hn, n_le (by omega) (by omega)]; omega) (gI (r_now (a := i) (w := 0) (by omega)) (by decide) (sI (fun _ => s_in _ _ _) (by decide) ?_))
      have ih := ih k
      rw [n_p1, Int32.add_zero]
      refine ⟨fun h => ?_, fun h => ?_⟩
      · rw [zb_0] at h; rw [zcnt_f h] at ih; exact ih
      · rw [zb_0, Classical.not_not] at h; rw [zcnt_t h] at ih; exact ih
  exact key 0 (by omega) _
theorem r_ends {n : Nat} {lo hi : Int32} (hn : S 416 71 = Int32.ofNat n) (hl : n ≤ 150) : rMet E l mX12_ends 1 0 [.int lo, .int hi] S (rI (zcnt (fun b => inn (S 1169 b) lo hi) n) (zup S 416 0 0)) := by
  refine r_meth (by decide) (Nat.le_of_ble_eq_true rfl) (by simp [Value.category]) (fun G hK => rwpt_X12_ends_0 hK ?_); unfold rwp_X12_ends_0
  intro S1 e1
  have e2 : S1 416 71 = Int32.ofNat n := by rw [e1, zup_at, if_neg (by decide), hn]
  have e3 : ∀ b, S1 1169 b = S 1169 b := fun b => by rw [e1, zup_at, if_neg (by omega)]
  have key : ∀ i, i ≤ n → ∀ k, zW E l mX12_ends 1 0 (zput G S) (rQ G (rI (zcnt (fun b => inn (S 1169 b) lo hi) n) (zup S 416 0 0))) k 10 [some (.ref (zp 416 0)), some (.int lo), some (.int hi), some (.int (zcnt (fun b => inn (S 1169 b) lo hi) i)), some (.int (Int32.ofNat i))] [] (zput G S1) := by
    refine zdown (fun k => ?_) (fun i hi ih k => ?_)
    · refine rwpt_X12_ends_10 hK ?_; unfold rwp_X12_ends_10
      refine it (by rw [e2, n_le (by omega) (by omega)]; omega) ⟨rfl, e1⟩
    · refine rwpt_X12_ends_10 hK ?_; unfold rwp_X12_ends_10
      refine ie (by rw [e2, n_le (by omega) (by omega)]; omega) ⟨n_in (by omega) (by omega), ?_⟩
      rw [n_nn (by omega), e3]
      refine sI (fun _ => s_in _ _ _) (by decide) ?_
      have ih := ih k
      rw [n_p1, Int32.add_zero]
      refine ⟨fun h => ?_, fun h => ?_⟩
      · rw [zb_0] at h; rw [zcnt_f h] at ih; exact ih
      · rw [zb_0, Classical.not_not] at h; rw [zcnt_t h] at ih; exact ih
  exact key 0 (by omega) _
theorem r_lawOf {n : Nat} {day : Int32} (hn : S 416 19 = Int32.ofNat n) (hl : n ≤ 12) : rMet E l mX12_lawOf 0 0 [.int day] S (rI (zopt (zlaw S day n)) S) := by
  refine r_meth (by decide) (Nat.le_of_ble_eq_true rfl) (by simp [Value.category]) (fun G hK => rwpt_X12_lawOf_0 hK ?_); unfold rwp_X12_lawOf_0
  have key : ∀ i, i ≤ n → ∀ k, zW E l mX12_lawOf 0 0 (zput G S) (rQ G (rI (zopt (zlaw S day n)) S)) k 4 [some (.ref (zp 416 0)), some (.int day), some (.int (zopt (zlaw S day i))), some (.int (Int32.ofNat i))] [] (zput G S) := by
    refine zdown (fun k => ?_) (fun i hi ih k => ?_)
    · refine rwpt_X12_lawOf_4 hK ?_; unfold rwp_X12_lawOf_4
      refine it (by rw [hn, n_le (by omega) (by omega)]; omega) ⟨rfl, rfl⟩
    · refine rwpt_X12_lawOf_4 hK ?_; unfold rwp_X12_lawOf_4
      refine ie (by rw [hn, n_le (by omega) (by omega)]; omega) ⟨n_in (by omega) (by omega), ?_⟩
      have ih := ih k
      have hb : ∀ b, zlaw S day i = some b → b < 2147483648 := fun b h => by have := zlaw_lt h; omega
      rw [n_nn (by omega), n_p1]
      refine ⟨fun h => ?_, fun h => ⟨fun h1 => ?_, fun h1 => ⟨n_in (by omega) (by omega), ?_⟩⟩⟩
      · rw [zlaw_f (fun z => z.1 h)] at ih; exact ih
      · rw [zopt_neg hb] at h1
        rw [zlaw_t ⟨h, fun b z => by rw [h1] at z; cases z⟩] at ih; exact ih
      · rw [zopt_neg hb] at h1
        cases hz : zlaw S day i with
        | none => exact absurd hz h1
        | some b =>
          have hbi := zlaw_lt hz
          show vp_in (Int32.ofNat b) 13 ∧ _
          refine ⟨n_in (by omega) (by omega), ?_⟩
          show (S 1110 i < S 1110 (Int32.ofNat b).toNatClampNeg → _) ∧ _
          rw [n_nn (by omega)]
          refine ⟨fun h2 => ?_, fun h2 => ?_⟩
          · rw [zlaw_f (fun z => z.2 b hz h2), hz] at ih; exact ih
          · rw [zlaw_t ⟨h, fun c z => by rw [hz] at z; cases z; rw [show (zopt (some b)).toNatClampNeg = b from n_nn (by omega)] at h2; exact h2⟩] at ih; exact ih
  exact key 0 (by omega) _
theorem r_canPrint : rMet E l mX12_canPrint 1 0 [] S (rI (zb (zcan S)) S) := by
  refine r_meth (by decide) (Nat.le_of_ble_eq_true rfl) (by simp [Value.category]) (fun G hK => rwpt_X12_canPrint_0 hK ?_); unfold rwp_X12_canPrint_0
  refine ⟨fun h => ⟨?_, rfl⟩, fun h => sI (fun _ => s_in _ _ _) (by decide) ⟨fun h2 => ⟨?_, rfl⟩, fun h2 => ⟨fun h3 => ⟨?_, rfl⟩, fun h3 => ⟨?_, rfl⟩⟩⟩⟩
  · rw [zbz (fun z => z.1 h)]
  · rw [zbz (fun z => h2 (zbz z.2.1))]
  · rw [zbz (fun z => z.2.2 h3)]
  · rw [zb_t ⟨h, zb_0.mp (Classical.not_not.mp h2), h3⟩]
theorem r_takes {d a : Nat} (hd : d < 4) (ha : a < 120) : rMet E l mX12_takes 1 0 [.int (Int32.ofNat d), .int (Int32.ofNat a)] S (rI (ztakes S d a) S) := by
  refine r_meth (by decide) (Nat.le_of_ble_eq_true rfl) (by simp [Value.category]) (fun G hK => rwpt_X12_takes_0 hK ?_); unfold rwp_X12_takes_0
  rw [n_nn (by omega)]
  unfold ztakes
  match d, hd with
  | 0, _ =>
    refine ie (by decide) (gI (r_now (a := a) (w := 2) (by omega)) (by decide) ⟨fun h => ⟨?_, rfl⟩, fun h => ⟨?_, rfl⟩⟩)
    · rw [if_pos rfl, if_pos h]
    · rw [if_pos rfl, if_neg h]
  | 1, _ => exact it (by decide) (ie (by decide) ⟨n_in (by omega) (by omega), rfl, rfl⟩)
  | 2, _ => exact it (by decide) (it (by decide) (ie (by decide) ⟨rfl, rfl⟩))
  | 3, _ => exact it (by decide) (it (by decide) (it (by decide) ⟨rfl, rfl⟩))
theorem r_unitsOf {d n : Nat} {day : Int32} (hd : d < 4) (hn : S 416 52 = Int32.ofNat n) (hl : n ≤ 20) : rMet E l mX12_unitsOf 1 0 [.int (Int32.ofNat d), .int day] S (rI (zunits S d day n) S) := by
  refine r_meth (by decide) (Nat.le_of_ble_eq_true rfl) (by simp [Value.category]) (fun G hK => rwpt_X12_unitsOf_0 hK ?_); unfold rwp_X12_unitsOf_0
  refine ⟨n_in (by omega) (by omega), ?_⟩
  rw [n_nn (by omega)]
  have key : ∀ i, i ≤ n → ∀ k, zW E l mX12_unitsOf 1 0 (zput G S) (rQ G (rI (zunits S d day n) S)) k 13 [some (.ref (zp 416 0)), some (.int (Int32.ofNat d)), some (.int day), some (.int (zunN S (Int32.ofNat d) day (8 * S 1146 d) i)), some (.int (Int32.ofNat i))] [] (zput G S) := by
    refine zdown (fun k => ?_) (fun i hi ih k => ?_)
    · refine rwpt_X12_unitsOf_13 hK ?_; unfold rwp_X12_unitsOf_13
      exact it (by rw [hn, n_le (by omega) (by omega)]; omega) (sI (fun _ => s_max _ _) (by decide) ⟨rfl, rfl⟩)
    · refine rwpt_X12_unitsOf_13 hK ?_; unfold rwp_X12_unitsOf_13
      refine ie (by rw [hn, n_le (by omega) (by omega)]; omega) ⟨n_in (by omega) (by omega), ?_⟩
      have ih := ih k
      rw [n_nn (by omega), n_p1]
      unfold zunN at ih
      by_cases h1 : S 1147 i = Int32.ofNat d
      · refine ie (nn h1) ⟨n_in (by omega) (by omega), n_in (by omega) (by omega), sI (fun _ => s_in _ _ _) (by decide) ?_⟩
        by_cases h2 : inn day (S 1149 i) (S 1150 i)
        · rw [if_pos (show zlends S (Int32.ofNat d) day i from ⟨h1, h2⟩)] at ih
          refine ie (zbn h2) ⟨n_in (by omega) (by omega), n_in (by omega) (by omega), fun h3 => ⟨n_in (by omega) (by omega), ?_⟩, fun h3 => ⟨n_in (by omega) (by omega), ?_⟩⟩
          · rw [if_pos h3] at ih; exact ih
          · rw [if_neg h3] at ih; exact ih
        · rw [if_neg (show ¬ zlends S (Int32.ofNat d) day i from fun z => h2 z.2)] at ih
          exact it (zbz h2) ih
      · rw [if_neg (show ¬ zlends S (Int32.ofNat d) day i from fun z => h1 z.1)] at ih
        exact it h1 ih
  exact key 0 (by omega) _
end ZRb
