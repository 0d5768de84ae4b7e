/-! flags, and rules over the reference's calls; the reference's small methods -/
noncomputable def zb (c : Prop) : Int32 := @ite _ c (Classical.propDecidable c) 1 0
theorem zb_t {c : Prop} (h : c) : zb c = 1 := if_pos h
theorem zb_f {c : Prop} (h : ¬ c) : zb c = 0 := if_neg h
theorem zbz {c : Prop} (h : ¬ c) : zb c = 0 := if_neg h
theorem zbn {c : Prop} (h : c) : ¬ zb c = 0 := by rw [zb_t h]; decide
theorem zb_0 {c : Prop} : zb c = 0 ↔ ¬ c := ⟨fun h hc => zbn hc h, zbz⟩
theorem zb_1 {c : Prop} : zb c = 1 ↔ c := ⟨fun h => Classical.byContradiction fun hc => by rw [zbz hc] at h; exact absurd h (by decide), zb_t⟩
theorem zb_n {c : Prop} : narrow .boolean (.int (zb c)) = .int (zb c) := by
  by_cases h : c
  · rw [zb_t h]; decide
  · rw [zbz h]; decide
theorem zb_ok {c : Prop} : zok .boolean (zb c) := by
  by_cases h : c
  · rw [zb_t h]; exact zok_1
  · rw [zbz h]; exact zok_0
theorem zb_if {c p : Prop} (h : c ↔ p) : zb c = zb p := by rw [propext h]
theorem zb01 {c : Prop} : zb c = 0 ∨ zb c = 1 := by
  by_cases h : c
  · exact Or.inr (zb_t h)
  · exact Or.inl (zbz h)
theorem zb_inj {c p : Prop} : zb c = zb p ↔ (c ↔ p) := by
  by_cases h : c
  · rw [zb_t h, eq_comm, zb_1]; simp [h]
  · rw [zbz h, eq_comm, zb_0]; simp [h]
theorem it {p A B : Prop} (h : p) (a : A) : (p → A) ∧ (¬ p → B) := ⟨fun _ => a, fun n => absurd h n⟩
theorem ie {p A B : Prop} (h : ¬ p) (a : B) : (p → A) ∧ (¬ p → B) := ⟨fun n => absurd n h, fun _ => a⟩
theorem nn {p : Prop} (h : p) : ¬ ¬ p := fun n => n h
theorem zup_ne {S : ZS9} {t k : Nat} {x : Int32} {a j : Nat} (h : ¬ (a = t ∧ j = k)) : zup S t k x a j = S a j := if_neg h
theorem zup_s (S : ZS9) (t k : Nat) (x : Int32) : zup S t k x t k = x := if_pos ⟨rfl, rfl⟩
/-- counting -/
noncomputable def zcnt (P : Nat → Prop) : Nat → Int32
  | 0 => 0
  | n + 1 => zcnt P n + zb (P n)
theorem zcnt_t {P : Nat → Prop} {n : Nat} (h : P n) : zcnt P (n + 1) = zcnt P n + 1 := by show zcnt P n + zb (P n) = _; rw [zb_t h]
theorem zcnt_f {P : Nat → Prop} {n : Nat} (h : ¬ P n) : zcnt P (n + 1) = zcnt P n := by show zcnt P n + zb (P n) = _; rw [zbz h, Int32.add_zero]
theorem zcnt_if {P P' : Nat → Prop} : ∀ {n : Nat}, (∀ i, i < n → (P i ↔ P' i)) → zcnt P n = zcnt P' n
  | 0, _ => rfl
  | n + 1, h => by
    show zcnt P n + zb (P n) = zcnt P' n + zb (P' n)
    rw [zcnt_if (n := n) (fun i hi => h i (by omega)), zb_if (h n (by omega))]
theorem zdown {C : Nat → Prop} {n : Nat} (h0 : C n) (hs : ∀ i, i < n → C (i + 1) → C i) : ∀ i, i ≤ n → C i := by
  have : ∀ m i, i + m = n → C i := by
    intro m
    induction m with
    | zero => intro i hi; rw [show i = n by omega]; exact h0
    | succ m ih => intro i hi; exact hs i (by omega) (ih (i + 1) (by omega))
  intro i hi
  exact this (n - i) i (by omega)
/-- an index below n -/
def zin (x : Int32) (n : Nat) : Prop := ¬ x < 0 ∧ x < Int32.ofNat n
theorem zin_of {x : Int32} {n : Nat} (h : zin x n) (hn : n < 2147483648) : ∃ i, i < n ∧ x = Int32.ofNat i := n_ofi h.1 h.2 hn
theorem zin_at {i n : Nat} (h : i < n) (hn : n < 2147483648) : zin (Int32.ofNat i) n := ⟨n_neg (by omega), (n_lt (by omega) hn).mpr h⟩
theorem n_pred {x : Int32} {n : Nat} (hn : n < 2147483648) : (¬ x < 0 ∧ ¬ Int32.ofNat n - 1 < x) ↔ zin x n := by
  unfold zin
  refine and_congr_right fun h0 => ?_
  obtain ⟨m, hm, rfl⟩ := n_of h0
  cases n with
  | zero =>
    refine ⟨fun h => absurd ?_ h, fun h => ?_⟩
    · rw [show Int32.ofNat 0 - 1 = -1 from by decide, Int32.lt_iff_toInt_lt, n_toInt hm, show (-1 : Int32).toInt = -1 from by decide]; omega
    · rw [n_lt hm (by omega)] at h; omega
  | succ k =>
    rw [show Int32.ofNat (k + 1) - 1 = Int32.ofNat k from (n_sub (b := 1) (by omega)), n_lt (by omega) hm, n_lt hm hn]
    omega
theorem n_p1 (a : Nat) : Int32.ofNat a + 1 = Int32.ofNat (a + 1) := n_succ a
theorem n_m1 (a : Nat) : Int32.ofNat (a + 1) + (-1) = Int32.ofNat a := by
  rw [← n_succ, Int32.add_assoc, show (1 : Int32) + (-1) = 0 from by decide, Int32.add_zero]
theorem n_s1 (a : Nat) : Int32.ofNat (a + 1) - 1 = Int32.ofNat a := n_sub (b := 1) (by omega)
/-- v lies in lo .. hi -/
def inn (v lo hi : Int32) : Prop := ¬ v < lo ∧ ¬ hi < v
theorem inn_le {v lo hi : Int32} : inn v lo hi ↔ lo ≤ v ∧ v ≤ hi := by unfold inn; rw [i_nlt, i_nlt]
def rX (P : Int32 → ZS9 → Prop) : Option Value → ZS9 → Prop := fun r S' => ∃ x, r = some (.int x) ∧ P x S'
def rW (P : ZS9 → Prop) : Option Value → ZS9 → Prop := fun r S' => r = none ∧ P S'
section ZGo
variable {E : ZE} {l : Launch} {Y : ZM} {d d1 k : Nat} {as : List Value} {S S1 : ZS9} {x : Int32} {q : Nat}
theorem gI {K : Int32 → ZS9 → Nat → Prop} (hm : rMet E l Y d1 0 as S (rI x S1)) (hd : d1 + 1 ≤ d) (hk : K x S1 k) : rcI E l Y d as S k K := ⟨d1, 0, _, hm, hd, Nat.zero_le _, fun r S' h => by obtain ⟨h1, h2⟩ := h; subst h2; exact ⟨x, h1, hk⟩⟩
theorem gV {K : ZS9 → Nat → Prop} (hm : rMet E l Y d1 0 as S (rV S1)) (hd : d1 + 1 ≤ d) (hk : K S1 k) : rcV E l Y d as S k K := ⟨d1, 0, _, hm, hd, Nat.zero_le _, fun r S' h => by obtain ⟨h1, h2⟩ := h; subst h2; exact ⟨h1, hk⟩⟩
theorem gX {K : Int32 → ZS9 → Nat → Prop} {P : Int32 → ZS9 → Prop} (hm : rMet E l Y d1 0 as S (rX P)) (hd : d1 + 1 ≤ d) (hk : ∀ x S1, P x S1 → K x S1 k) : rcI E l Y d as S k K := ⟨d1, 0, _, hm, hd, Nat.zero_le _, fun r S' h => by obtain ⟨x, h1, h2⟩ := h; exact ⟨x, h1, hk _ _ h2⟩⟩
theorem gW {K : ZS9 → Nat → Prop} {P : ZS9 → Prop} (hm : rMet E l Y d1 0 as S (rW P)) (hd : d1 + 1 ≤ d) (hk : ∀ S1, P S1 → K S1 k) : rcV E l Y d as S k K := ⟨d1, 0, _, hm, hd, Nat.zero_le _, fun r S' h => by obtain ⟨h1, h2⟩ := h; exact ⟨h1, hk _ h2⟩⟩
theorem sI {K : Int32 → Prop} (hm : ∀ G, zMet E l Y d1 0 as G (zI x G)) (hd : d1 + 1 ≤ d) (hk : K x) : scI E l Y d as K := ⟨d1, x, hm, hd, hk⟩
theorem sR {K : Nat → Prop} (hm : ∀ G, zMet E l Y d1 0 as G (zRf q G)) (hd : d1 + 1 ≤ d) (hk : K q) : scR E l Y d as K := ⟨d1, q, hm, hd, hk⟩
end ZGo
section ZRa
variable {E : ZE} {l : Launch} {d b : Nat} {G : ZG} {S : ZS9}
theorem s_in (v lo hi : Int32) : zMet E l mX12_in 0 0 [.int v, .int lo, .int hi] G (zI (zb (inn v lo hi)) G) := by
  refine z_meth (by decide) (Nat.le_of_ble_eq_true rfl) (by simp [Value.category]) (wpt_X12_in_0 ?_); unfold wp_X12_in_0
  refine ⟨fun h => ⟨?_, rfl⟩, fun h => ⟨fun h2 => ⟨?_, rfl⟩, fun h2 => ⟨?_, rfl⟩⟩⟩
  · rw [zbz (fun z => z.1 h)]
  · rw [zbz (fun z => z.2 h2)]
  · rw [zb_t ⟨h, h2⟩]
theorem s_noFace (v : Int32) : zMet E l mX12_noFace 1 0 [.int v] G (zI (zb (¬ inn v 0 99)) G) := by
  refine z_meth (by decide) (Nat.le_of_ble_eq_true rfl) (by simp [Value.category]) (wpt_X12_noFace_0 ?_); unfold wp_X12_noFace_0
  refine xcI_of (d1 := 0) (b1 := 0) (s_in _ _ _) (by decide) (Nat.zero_le _) ⟨fun h => ⟨?_, rfl⟩, fun h => ⟨?_, rfl⟩⟩
  · rw [zbz (nn (Classical.not_not.mp (fun z => h (zbz z))))]
  · rw [zb_t (fun z => h (zbn z))]
theorem s_noDesk (v : Int32) : zMet E l mX12_noDesk 1 0 [.int v] G (zI (zb (¬ inn v 0 3)) G) := by
  refine z_meth (by decide) (Nat.le_of_ble_eq_true rfl) (by simp [Value.category]) (wpt_X12_noDesk_0 ?_); unfold wp_X12_noDesk_0
  refine xcI_of (d1 := 0) (b1 := 0) (s_in _ _ _) (by decide) (Nat.zero_le _) ⟨fun h => ⟨?_, rfl⟩, fun h => ⟨?_, rfl⟩⟩
  · rw [zbz (nn (Classical.not_not.mp (fun z => h (zbz z))))]
  · rw [zb_t (fun z => h (zbn z))]
theorem s_isGap (v : Int32) : zMet E l mX12_isGap 0 0 [.int v] G (zI (zb (v = 32 ∨ v = 45)) G) := by
  refine z_meth (by decide) (Nat.le_of_ble_eq_true rfl) (by simp [Value.category]) (wpt_X12_isGap_0 ?_); unfold wp_X12_isGap_0
  simp +contextual [zI, zb]
def rStateAt (x : Int32) : Int32 := if x = 0 then 0 else if x = 1 then 2 else if x = 2 then 4 else 5
theorem s_stateAt (v : Int32) : zMet E l mX12_stateAt 0 0 [.int v] G (zI (rStateAt v) G) := by
  refine z_meth (by decide) (Nat.le_of_ble_eq_true rfl) (by simp [Value.category]) (wpt_X12_stateAt_0 ?_); unfold wp_X12_stateAt_0
  simp +contextual [zI, rStateAt]
theorem s_max (x y : Int32) : zMet E l mJ9_max_7cf53 0 0 [.int x, .int y] G (zI (if x < y then y else x) G) := c_max x y
theorem s_min (x y : Int32) : zMet E l mJ9_min_7cf53 0 0 [.int x, .int y] G (zI (if y < x then y else x) G) := c_min x y
theorem r_thrown : rMet E l mX12_thrown 0 0 [] S (rI (S 416 0) S) := by
  refine r_meth (by decide) (Nat.le_of_ble_eq_true rfl) (by simp [Value.category]) (fun G hK => rwpt_X12_thrown_0 hK ?_); unfold rwp_X12_thrown_0
  exact ⟨rfl, rfl⟩
theorem r_thr1 (x : Int32) : rMet E l mX12_throwsIf 0 0 [.int 1, .int x] S (rI 1 (zup S 416 0 x)) := by
  refine r_meth (by decide) (Nat.le_of_ble_eq_true rfl) (by simp [Value.category]) (fun G hK => rwpt_X12_throwsIf_0 hK ?_); unfold rwp_X12_throwsIf_0
  exact ⟨fun h => absurd h (by decide), fun _ S1 e => ⟨by decide, rfl, e⟩⟩
theorem r_thr0 (x : Int32) : rMet E l mX12_throwsIf 0 0 [.int 0, .int x] S (rI 0 S) := by
  refine r_meth (by decide) (Nat.le_of_ble_eq_true rfl) (by simp [Value.category]) (fun G hK => rwpt_X12_throwsIf_0 hK ?_); unfold rwp_X12_throwsIf_0
  exact ⟨fun _ => ⟨by decide, rfl, rfl⟩, fun h => absurd rfl h⟩
theorem r_now {a w : Nat} (h : 7 * a + w < 840) : rMet E l mX12_now 0 0 [.int (Int32.ofNat a), .int (Int32.ofNat w)] S (rI (S 1165 (7 * a + w)) S) := by
  refine r_meth (by decide) (Nat.le_of_ble_eq_true rfl) (by simp [Value.category]) (fun G hK => rwpt_X12_now_0 hK ?_); unfold rwp_X12_now_0
  rw [show (7 : Int32) = Int32.ofNat 7 from rfl, n_mul, n_add, n_nn (by omega)]
  exact ⟨n_in h (by omega), rfl, rfl⟩
theorem r_sets {a w : Nat} {x : Int32} (h : 7 * a + w < 840) : rMet E l mX12_sets 0 0 [.int (Int32.ofNat a), .int (Int32.ofNat w), .int x] S (rV (zup S 1165 (7 * a + w) x)) := by
  refine r_meth (by decide) (Nat.le_of_ble_eq_true rfl) (by simp [Value.category]) (fun G hK => rwpt_X12_sets_0 hK ?_); unfold rwp_X12_sets_0
  rw [show (7 : Int32) = Int32.ofNat 7 from rfl, n_mul, n_add, n_nn (by omega)]
  exact ⟨n_in h (by omega), fun S1 e => ⟨rfl, e⟩⟩
def rLacks (S : ZS9) (a : Nat) : Int32 := S 1159 a &&& (S 1157 a ^^^ (-1))
theorem r_lacksOf {a : Nat} (h : a < 120) : rMet E l mX12_lacksOf 0 0 [.int (Int32.ofNat a)] S (rI (rLacks S a) S) := by
  refine r_meth (by decide) (Nat.le_of_ble_eq_true rfl) (by simp [Value.category]) (fun G hK => rwpt_X12_lacksOf_0 hK ?_); unfold rwp_X12_lacksOf_0
  rw [n_nn (by omega)]
  exact ⟨n_in h (by omega), n_in h (by omega), rfl, rfl⟩
def rTicket (S : ZS9) (a : Nat) : Prop := (S 1157 a >>> ((6 : Int32) &&& 31)) &&& 1 = 1
theorem r_hasTicket {a : Nat} (h : a < 120) : rMet E l mX12_hasTicket 0 0 [.int (Int32.ofNat a)] S (rI (zb (rTicket S a)) S) := by
  refine r_meth (by decide) (Nat.le_of_ble_eq_true rfl) (by simp [Value.category]) (fun G hK => rwpt_X12_hasTicket_0 hK ?_); unfold rwp_X12_hasTicket_0
  rw [n_nn (by omega)]
  refine ⟨n_in h (by omega), fun h => ⟨?_, rfl⟩, fun h => ⟨?_, rfl⟩⟩
  · rw [zbz (show ¬ rTicket S a from h)]
  · rw [zb_t (show rTicket S a from Classical.not_not.mp h)]
theorem r_nobody {n : Nat} (x : Int32) (hn : S 416 34 = Int32.ofNat n) (hl : n < 2147483648) : rMet E l mX12_nobody 1 0 [.int x] S (rI (zb (¬ zin x n)) S) := by
  refine r_meth (by decide) (Nat.le_of_ble_eq_true rfl) (by simp [Value.category]) (fun G hK => rwpt_X12_nobody_0 hK ?_); unfold rwp_X12_nobody_0
  rw [hn]
  refine sI (fun _ => s_in _ _ _) (by decide) ⟨fun h => ⟨?_, rfl⟩, fun h => ⟨?_, rfl⟩⟩
  · rw [zbz (nn ((n_pred hl).mp (Classical.not_not.mp (fun z => h (zbz z)))))]
  · rw [zb_t (fun z => h (zbn ((n_pred hl).mpr z)))]
theorem r_noAsking {n : Nat} (x : Int32) (hn : S 416 66 = Int32.ofNat n) (hl : n < 2147483648) : rMet E l mX12_noAsking 1 0 [.int x] S (rI (zb (¬ zin x n)) S) := by
  refine r_meth (by decide) (Nat.le_of_ble_eq_true rfl) (by simp [Value.category]) (fun G hK => rwpt_X12_noAsking_0 hK ?_); unfold rwp_X12_noAsking_0
  rw [hn]
  refine sI (fun _ => s_in _ _ _) (by decide) ⟨fun h => ⟨?_, rfl⟩, fun h => ⟨?_, rfl⟩⟩
  · rw [zbz (nn ((n_pred hl).mp (Classical.not_not.mp (fun z => h (zbz z)))))]
  · rw [zb_t (fun z => h (zbn ((n_pred hl).mpr z)))]
theorem r_noAsk (x y : Int32) : rMet E l mX12_noAsk 1 0 [.int x, .int y] S (rI (zb (¬ (inn x 0 3 ∧ inn y (S 416 1) 1000))) S) := by
  refine r_meth (by decide) (Nat.le_of_ble_eq_true rfl) (by simp [Value.category]) (fun G hK => rwpt_X12_noAsk_0 hK ?_); unfold rwp_X12_noAsk_0
  refine sI (fun _ => s_in _ _ _) (by decide) ⟨fun h => ⟨?_, rfl⟩, fun h => sI (fun _ => s_in _ _ _) (by decide) ⟨fun h2 => ⟨?_, rfl⟩, fun h2 => ⟨?_, rfl⟩⟩⟩
  · rw [zb_t (fun z => absurd h (zbn z.1))]
  · rw [zbz (nn ⟨Classical.not_not.mp (fun z => h (zbz z)), Classical.not_not.mp (fun z => h2 (zbz z))⟩)]
  · rw [zb_t (fun z => h2 (zbn z.2))]
end ZRa
