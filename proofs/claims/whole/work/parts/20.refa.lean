/-! the reference's small methods -/
def zb (c : Prop) [Decidable c] : Int32 := if c then 1 else 0
theorem zb_0 {c : Prop} [Decidable c] : zb c = 0 ↔ ¬ c := by
  unfold zb
  by_cases h : c <;> simp [h]
theorem zb_1 {c : Prop} [Decidable c] : zb c = 1 ↔ c := by
  unfold zb
  by_cases h : c <;> simp [h]
theorem zb_n {c : Prop} [Decidable c] : narrow .boolean (.int (zb c)) = .int (zb c) := by
  unfold zb
  by_cases h : c
  · rw [if_pos h]; decide
  · rw [if_neg h]; decide
theorem zb_ok {c : Prop} [Decidable c] : zok .boolean (zb c) := by
  unfold zb
  by_cases h : c
  · rw [if_pos h]; exact zok_1
  · rw [if_neg h]; exact zok_0
theorem zb_t {c : Prop} [Decidable c] (h : c) : zb c = 1 := if_pos h
theorem zb_f {c : Prop} [Decidable c] (h : ¬ c) : zb c = 0 := if_neg h
/-- v lies in lo .. hi -/
def inn (v lo hi : Int32) : Prop := ¬ v < lo ∧ ¬ hi < v
theorem inn_le {v lo hi : Int32} : inn v lo hi ↔ lo ≤ v ∧ v ≤ hi := by unfold inn; rw [i_nlt, i_nlt]
section ZRa
variable {E : ZE} {l : Launch} {d b : Nat} {G : ZG} {S : ZS9}
theorem s_in (v lo hi : Int32) : zMet E l mX12_in d b [.int v, .int lo, .int hi] G (zI (zb (¬ v < lo ∧ ¬ hi < v)) G) := by
  refine z_meth (by decide) (Nat.le_of_ble_eq_true rfl) (by simp [Value.category]) (wpt_X12_in_0 ?_); unfold wp_X12_in_0
  simp +contextual [zI, zb]
theorem s_noFace (v : Int32) (hd : 1 ≤ d) : zMet E l mX12_noFace d b [.int v] G (zI (zb (¬ (¬ v < 0 ∧ ¬ 99 < v))) G) := by
  refine z_meth (by decide) (Nat.le_of_ble_eq_true rfl) (by simp [Value.category]) (wpt_X12_noFace_0 ?_); unfold wp_X12_noFace_0
  refine xcI_of (d1 := 0) (b1 := 0) (s_in _ _ _) hd (Nat.zero_le _) ?_
  simp +contextual [zI, zb]
theorem s_noDesk (v : Int32) (hd : 1 ≤ d) : zMet E l mX12_noDesk d b [.int v] G (zI (zb (¬ (¬ v < 0 ∧ ¬ 3 < v))) G) := by
  refine z_meth (by decide) (Nat.le_of_ble_eq_true rfl) (by simp [Value.category]) (wpt_X12_noDesk_0 ?_); unfold wp_X12_noDesk_0
  refine xcI_of (d1 := 0) (b1 := 0) (s_in _ _ _) hd (Nat.zero_le _) ?_
  simp +contextual [zI, zb]
theorem s_isGap (v : Int32) : zMet E l mX12_isGap d b [.int v] G (zI (zb (v = 32 ∨ v = 45)) G) := by
  refine z_meth (by decide) (Nat.le_of_ble_eq_true rfl) (by simp [Value.category]) (wpt_X12_isGap_0 ?_); unfold wp_X12_isGap_0
  simp +contextual [zI, zb]
def rStateAt (x : Int32) : Int32 := if x = 0 then 0 else if x = 1 then 2 else if x = 2 then 4 else 5
theorem s_stateAt (v : Int32) : zMet E l mX12_stateAt d b [.int v] G (zI (rStateAt v) G) := by
  refine z_meth (by decide) (Nat.le_of_ble_eq_true rfl) (by simp [Value.category]) (wpt_X12_stateAt_0 ?_); unfold wp_X12_stateAt_0
  simp +contextual [zI, rStateAt]
theorem r_thrown : rMet E l mX12_thrown d b [] S (rI (S 416 0) S) := by
  refine r_meth (by decide) (Nat.le_of_ble_eq_true rfl) (by simp [Value.category]) (fun G hK => rwpt_X12_thrown_0 hK ?_); unfold rwp_X12_thrown_0
  exact ⟨rfl, rfl⟩
theorem r_throwsIf (c : Prop) [Decidable c] (x : Int32) : rMet E l mX12_throwsIf d b [.int (zb c), .int x] S (rI (zb c) (if c then zup S 416 0 x else S)) := by
  refine r_meth (by decide) (Nat.le_of_ble_eq_true rfl) (by simp [Value.category]) (fun G hK => rwpt_X12_throwsIf_0 hK ?_); unfold rwp_X12_throwsIf_0
  by_cases h : c
  · simp only [zb_t h, if_pos h]
    exact ⟨fun h => absurd h (by decide), fun _ S1 e => ⟨by decide, rfl, e⟩⟩
  · simp only [zb_f h, if_neg h]
    exact ⟨fun _ => ⟨by decide, rfl, rfl⟩, fun h => absurd rfl h⟩
theorem r_now {a w : Nat} (h : 7 * a + w < 840) : rMet E l mX12_now d b [.int (Int32.ofNat a), .int (Int32.ofNat w)] S (rI (S 1165 (7 * a + w)) S) := by
  refine r_meth (by decide) (Nat.le_of_ble_eq_true rfl) (by simp [Value.category]) (fun G hK => rwpt_X12_now_0 hK ?_); unfold rwp_X12_now_0
  rw [show (7 : Int32) = Int32.ofNat 7 from rfl, n_mul, n_add, n_nn (by omega)]
  exact ⟨n_in h (by omega), rfl, rfl⟩
theorem r_sets {a w : Nat} (x : Int32) (h : 7 * a + w < 840) : rMet E l mX12_sets d b [.int (Int32.ofNat a), .int (Int32.ofNat w), .int x] S (rV (zup S 1165 (7 * a + w) x)) := by
  refine r_meth (by decide) (Nat.le_of_ble_eq_true rfl) (by simp [Value.category]) (fun G hK => rwpt_X12_sets_0 hK ?_); unfold rwp_X12_sets_0
  rw [show (7 : Int32) = Int32.ofNat 7 from rfl, n_mul, n_add, n_nn (by omega)]
  exact ⟨n_in h (by omega), fun S1 e => ⟨rfl, e⟩⟩
def rLacks (S : ZS9) (a : Nat) : Int32 := S 1159 a &&& (S 1157 a ^^^ (-1))
theorem r_lacksOf {a : Nat} (h : a < 120) : rMet E l mX12_lacksOf d b [.int (Int32.ofNat a)] S (rI (rLacks S a) S) := by
  refine r_meth (by decide) (Nat.le_of_ble_eq_true rfl) (by simp [Value.category]) (fun G hK => rwpt_X12_lacksOf_0 hK ?_); unfold rwp_X12_lacksOf_0
  rw [n_nn (by omega)]
  exact ⟨n_in h (by omega), n_in h (by omega), rfl, rfl⟩
def rTicket (S : ZS9) (a : Nat) : Prop := (S 1157 a >>> ((6 : Int32) &&& 31)) &&& 1 = 1
theorem r_hasTicket {a : Nat} (h : a < 120) [Decidable (rTicket S a)] : rMet E l mX12_hasTicket d b [.int (Int32.ofNat a)] S (rI (zb (rTicket S a)) S) := by
  refine r_meth (by decide) (Nat.le_of_ble_eq_true rfl) (by simp [Value.category]) (fun G hK => rwpt_X12_hasTicket_0 hK ?_); unfold rwp_X12_hasTicket_0
  rw [n_nn (by omega)]
  refine ⟨n_in h (by omega), ?_⟩
  unfold rTicket at *
  simp +contextual [rI, zb]
end ZRa
