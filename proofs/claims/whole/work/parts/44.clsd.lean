/-! an office: a day's steps -/
section ZCd
variable {w m : Nat} {S : ZS9} {r : Int32} {X : ZG}
theorem OF.w2 (h : OF w S r m X) : w < 2 := h.1
theorem OF.ri (h : OF w S r m X) : RI S := h.2.1
theorem OF.rj (h : OF w S r m X) : RJ S := h.2.2.1
theorem OF.cp (h : OF w S r m X) : CP S X := h.2.2.2.1
theorem OF.cd (h : OF w S r m X) : CD S X := h.2.2.2.2.1
theorem OF.cr (h : OF w S r m X) : CR S X := h.2.2.2.2.2.1
theorem OF.cs (h : OF w S r m X) : CS X := h.2.2.2.2.2.2.1
theorem OF.so (h : OF w S r m X) : SO w S r m X := h.2.2.2.2.2.2.2
theorem OF.oo (h : OF w S r m X) : zob X (zp (224 + w) 0) 7 := h.so.1.1
theorem OF.ob (h : OF w S r m X) {a : Nat} (ha : a < nA S) : zob X (zp (32 + w) a) 1 := h.so.ob h.w2 ha
theorem OF.vo (h : OF w S r m X) {a : Nat} (ha : a < nA S) : zob X (zrv X (zp (32 + w) a) 6) 11 := h.so.vo ha
theorem OF.mB (h : OF w S r m X) : nB S ≤ m ∧ m ≤ 150 := ⟨h.so.2.2.2.2.1, h.so.2.2.2.2.2.1⟩
theorem OF.bo (h : OF w S r m X) {b : Nat} (hb : b < nB S) : zob X (zp (64 + w) b) 2 := h.so.bo h.w2 (by have := h.mB; omega)
theorem OF.r0 (h : OF w S r m X) : zrv X (zp (224 + w) 0) 0 = zp 256 0 := h.so.1.2.1
theorem OF.r1 (h : OF w S r m X) : zrv X (zp (224 + w) 0) 1 = zp 96 0 := h.so.1.2.2.1
theorem OF.r2 (h : OF w S r m X) : zrv X (zp (224 + w) 0) 2 = zp 320 0 := h.so.1.2.2.2.1
theorem OF.r3 (h : OF w S r m X) : zrv X (zp (224 + w) 0) 3 = zp (4 + 2 * w) 0 := h.so.1.2.2.2.2.1
theorem OF.r4 (h : OF w S r m X) : zrv X (zp (224 + w) 0) 4 = zp (5 + 2 * w) 0 := h.so.1.2.2.2.2.2.1
theorem OF.f5 (h : OF w S r m X) : ziv X (zp (224 + w) 0) 5 = S 416 71 := h.so.fo (k := 5) (by decide)
theorem OF.f6 (h : OF w S r m X) : ziv X (zp (224 + w) 0) 6 = S 416 1 := h.so.fo (k := 6) (by decide)
theorem OF.f7 (h : OF w S r m X) : ziv X (zp (224 + w) 0) 7 = r := h.so.fo (k := 7) (by decide)
theorem OF.f8 (h : OF w S r m X) : ziv X (zp (224 + w) 0) 8 = S 416 43 := h.so.fo (k := 8) (by decide)
theorem OF.f9 (h : OF w S r m X) : ziv X (zp (224 + w) 0) 9 = S 416 72 := h.so.fo (k := 9) (by decide)
theorem OF.f10 (h : OF w S r m X) : ziv X (zp (224 + w) 0) 10 = S 416 73 := h.so.fo (k := 10) (by decide)
theorem OF.f11 (h : OF w S r m X) : ziv X (zp (224 + w) 0) 11 = S 416 74 := h.so.fo (k := 11) (by decide)
theorem OF.f12 (h : OF w S r m X) : ziv X (zp (224 + w) 0) 12 = S 416 75 := h.so.fo (k := 12) (by decide)
theorem OF.f13 (h : OF w S r m X) : ziv X (zp (224 + w) 0) 13 = S 416 76 := h.so.fo (k := 13) (by decide)
theorem OF.a1 (h : OF w S r m X) {a : Nat} (ha : a < nA S) : zrv X (zp (32 + w) a) 1 = zp 288 (pn S a) := h.so.pe ha
theorem OF.a0 (h : OF w S r m X) {a : Nat} (ha : a < nA S) : ziv X (zp (32 + w) a) 0 = Int32.ofNat a := h.so.fa ha (k := 0) (by decide)
theorem OF.a2 (h : OF w S r m X) {a : Nat} (ha : a < nA S) : ziv X (zp (32 + w) a) 2 = S 1154 a := h.so.fa ha (k := 2) (by decide)
theorem OF.a3 (h : OF w S r m X) {a : Nat} (ha : a < nA S) : ziv X (zp (32 + w) a) 3 = S 1155 a := h.so.fa ha (k := 3) (by decide)
theorem OF.a4 (h : OF w S r m X) {a : Nat} (ha : a < nA S) : ziv X (zp (32 + w) a) 4 = S 1156 a := h.so.fa ha (k := 4) (by decide)
theorem OF.a5 (h : OF w S r m X) {a : Nat} (ha : a < nA S) : ziv X (zp (32 + w) a) 5 = S 2158 a := h.so.fa ha (k := 5) (by decide)
theorem OF.a7 (h : OF w S r m X) {a : Nat} (ha : a < nA S) : ziv X (zp (32 + w) a) 7 = S 1165 (7 * a + 0) := h.so.fa ha (k := 7) (by decide)
theorem OF.a8 (h : OF w S r m X) {a : Nat} (ha : a < nA S) : ziv X (zp (32 + w) a) 8 = S 1157 a := h.so.fa ha (k := 8) (by decide)
theorem OF.a9 (h : OF w S r m X) {a : Nat} (ha : a < nA S) : ziv X (zp (32 + w) a) 9 = S 1165 (7 * a + 6) := h.so.fa ha (k := 9) (by decide)
theorem OF.a10 (h : OF w S r m X) {a : Nat} (ha : a < nA S) : ziv X (zp (32 + w) a) 10 = S 1165 (7 * a + 1) := h.so.fa ha (k := 10) (by decide)
theorem OF.a11 (h : OF w S r m X) {a : Nat} (ha : a < nA S) : ziv X (zp (32 + w) a) 11 = S 1165 (7 * a + 2) := h.so.fa ha (k := 11) (by decide)
theorem OF.a12 (h : OF w S r m X) {a : Nat} (ha : a < nA S) : ziv X (zp (32 + w) a) 12 = S 1165 (7 * a + 3) := h.so.fa ha (k := 12) (by decide)
theorem OF.a13 (h : OF w S r m X) {a : Nat} (ha : a < nA S) : ziv X (zp (32 + w) a) 13 = S 1165 (7 * a + 4) := h.so.fa ha (k := 13) (by decide)
theorem OF.a14 (h : OF w S r m X) {a : Nat} (ha : a < nA S) : ziv X (zp (32 + w) a) 14 = S 1165 (7 * a + 5) := h.so.fa ha (k := 14) (by decide)
theorem OF.aL (h : OF w S r m X) : zAL X (4 + 2 * w) (nA S) (zp (32 + w)) := h.so.2.1.1
theorem OF.nA2 (h : OF w S r m X) : S 416 66 = Int32.ofNat (nA S) ∧ nA S ≤ 120 := h.ri.1
theorem OF.pl (h : OF w S r m X) {a : Nat} (ha : a < nA S) : S 1153 a = Int32.ofNat (pn S a) ∧ pn S a < nP S := h.ri.2.2.2.2.1 a ha
/-- an asking's number is put -/
theorem OF.putA (h : OF w S r m X) {a j k : Nat} {v : Int32} (hg : gk j k) (hv : j = 2 → ¬ v < 0) : OF w (zup S 1165 (7 * a + j) v) r m (zsi X (zp (32 + w) a) k v) := by
  have hj : j < 7 := by unfold gk at hg; omega
  have hk : zdk S (zup S 1165 (7 * a + j) v) := zdk.up (by unfold zdc; omega)
  refine h.step hk (h.ri.up (by omega)) (h.rj.dk hk (fun b => ?_) ?_) (h.so.putA h.w2 hg) (fsi (by have := h.w2; omega) TWa)
  · rw [zup_at]
    by_cases c : 7 * b + 2 = 7 * a + j
    · rw [if_pos ⟨rfl, c⟩]; exact Or.inr (hv (by omega))
    · rw [if_neg (fun z => c z.2)]; exact Or.inl rfl
  · rw [zup_ne (by omega)]; exact h.rj.2.2.2
/-- one of the office's numbers is put -/
theorem OF.putO (h : OF w S r m X) {j k : Nat} {v : Int32} (hg : ok9 j k) (h2 : j ≠ 72) (hv : j = 1 → ¬ v < 0) : OF w (zup S 416 j v) r m (zsi X (zp (224 + w) 0) k v) := by
  have hj : j = 1 ∨ j = 43 ∨ j = 73 ∨ j = 74 ∨ j = 75 ∨ j = 76 := by unfold ok9 at hg; omega
  have hk : zdk S (zup S 416 j v) := zdk.up (by unfold zdc; omega)
  refine h.step hk (h.ri.up (by omega)) (h.rj.dk hk (fun b => Or.inl (zup_ne (by omega))) ?_) (h.so.putO h.w2 hg) (fsi (by have := h.w2; omega) TWo)
  rw [zup_at]
  by_cases c : 1 = j
  · rw [if_pos ⟨rfl, c⟩]; exact hv c.symm
  · rw [if_neg (fun z => c z.2)]; exact h.rj.2.2.2
theorem OF.putB (h : OF w S r m X) {b k : Nat} {v : Int32} (hk0 : k < 4) : OF w (zup S (1167 + k) b v) r m (zsi X (zp (64 + w) b) k v) := by
  have hk : zdk S (zup S (1167 + k) b v) := zdk.up (by unfold zdc; omega)
  refine h.step hk (h.ri.up (by omega)) (h.rj.dk hk (fun b => Or.inl (zup_ne (by omega))) ?_) (h.so.putB h.w2 hk0) (fsi (by have := h.w2; omega) TWb)
  rw [zup_ne (by omega)]; exact h.rj.2.2.2
theorem frA (hw : w < 2) {X0 : ZG} (h : zfr (TW w) X0 X) {a k : Nat} {v : Int32} : zfr (TW w) X0 (zsi X (zp (32 + w) a) k v) := h.trans (fsi (by omega) TWa)
theorem frO (hw : w < 2) {X0 : ZG} (h : zfr (TW w) X0 X) {a k : Nat} {v : Int32} : zfr (TW w) X0 (zsi X (zp (224 + w) a) k v) := h.trans (fsi (by omega) TWo)
theorem frB (hw : w < 2) {X0 : ZG} (h : zfr (TW w) X0 X) {a k : Nat} {v : Int32} : zfr (TW w) X0 (zsi X (zp (64 + w) a) k v) := h.trans (fsi (by omega) TWb)
variable {E : ZE} {l : Launch}
/-- the first of a line -/
def zhd (w : Nat) : List Nat → Nat
  | [] => 0
  | a :: _ => zp (32 + w) a
theorem c_firstIn (h : OF w S r m X) (hr : r = 0 ∨ r = 1 ∨ r = 2) (x : Int32) : zMet E l mX6_firstIn 3 0 [.ref (zp (224 + w) 0), .int x] X (zRf (zhd w (zline S r x (nA S))) X) := by
  have hA := h.nA2
  have hl := h.aL
  have hw := h.w2
  refine z_meth (by decide) (Nat.le_of_ble_eq_true rfl) (by simp [Value.category]) (wpt_X6_firstIn_0 ?_); unfold wp_X6_firstIn_0
  have key : ∀ i, i ≤ nA S → ∀ k, zW E l mX6_firstIn 3 0 X (zRf (zhd w (zline S r x (nA S))) X) k 4 [some (.ref (zp (224 + w) 0)), some (.int x), some (.ref (zhd w (zline S r x i))), some (.int (Int32.ofNat i)), none] [] X := by
    refine zdown (fun k => ?_) (fun i hi ih k => ?_)
    · refine wpt_X6_firstIn_4 ?_; unfold wp_X6_firstIn_4
      rw [h.r3]
      exact ⟨h.oo, zobL hl (by omega), csize hl (by omega) (by decide) (it (by rw [n_le (by omega) (by omega)]; omega) ⟨rfl, rfl⟩)⟩
    · have ih := ih k
      have e1 : zline S r x (i + 1) = if S 1165 (7 * i + 0) = x then zins S r i (zline S r x i) else zline S r x i := rfl
      rw [e1] at ih
      refine wpt_X6_firstIn_4 ?_; unfold wp_X6_firstIn_4
      rw [h.r3, n_p1]
      refine ⟨h.oo, zobL hl (by omega), csize hl (by omega) (by decide) (ie (by rw [n_le (by omega) (by omega)]; omega) ⟨h.oo, by rw [h.r3]; exact zobL hl (by omega), ?_⟩)⟩
      rw [h.r3]
      refine cget hl (by omega) (by omega) hi (by decide) ⟨h.ob hi, h.ob hi, ?_⟩
      rw [h.a7 hi]
      refine ⟨fun c => ?_, fun c => ?_⟩
      · rw [if_neg c] at ih; exact ih
      · rw [if_pos (Classical.not_not.mp c)] at ih
        generalize hL : zline S r x i = L at ih ⊢
        match L, hL with
        | [], _ => exact it rfl ih
        | b :: L, hL =>
          have hb : b < i := (zline_mem.mp (by rw [hL]; exact List.mem_cons_self)).1
          have e2 : zins S r i (b :: L) = @ite _ (zlt S r i b) (Classical.propDecidable _) (i :: b :: L) (b :: zins S r i L) := rfl
          rw [e2] at ih
          refine ie (zpn (by omega)) ⟨h.oo, cI (c_isAhead h.so hw h.ri hr hi (by omega)) (by decide) ⟨fun c2 => ?_, fun c2 => ?_⟩⟩
          · have c2 := zb_0.mp c2
            rw [if_neg c2] at ih; exact ih
          · have c2 := Classical.not_not.mp (fun z => c2 (zbz z))
            rw [if_pos c2] at ih; exact ih
  exact key 0 (by omega) _
theorem c_canPrint (h : OF w S r m X) : zMet E l mX6_canPrint 0 0 [.ref (zp (224 + w) 0)] X (zI (zb (zcan S)) X) := by
  obtain ⟨r0, -, -, -, -, -, r5, r6⟩ := h.cr
  have e33 : ∀ x0, (x0 = 0 ∧ ¬ inn (S 416 1) (S 416 44) (S 416 45)) ∨ (x0 = 1 ∧ inn (S 416 1) (S 416 44) (S 416 45)) → ∀ k, zW E l mX6_canPrint 0 0 X (zI (zb (zcan S)) X) k 33 [some (.ref (zp (224 + w) 0)), none] [.int x0] X := by
    intro x0 hx k
    refine wpt_X6_canPrint_33 ?_; unfold wp_X6_canPrint_33
    rw [h.f8, h.f5]
    unfold zcan
    refine ⟨h.oo, fun c => ⟨by rw [zbz (fun z => z.1 c)], rfl⟩, fun c => ⟨h.oo, fun c2 => ⟨by rw [zbz (fun z => z.2.2 c2)], rfl⟩, fun c2 => ⟨fun c3 => ?_, fun c3 => ?_⟩⟩⟩
    · rcases hx with ⟨h1, h2⟩ | ⟨h1, h2⟩
      · exact absurd h1 c3
      · exact ⟨by rw [zbz (fun z => z.2.1 h2)], rfl⟩
    · rcases hx with ⟨h1, h2⟩ | ⟨h1, h2⟩
      · exact ⟨by rw [zb_t ⟨c, h2, c2⟩], rfl⟩
      · exact absurd (by rw [h1]; decide) c3
  refine z_meth (by decide) (Nat.le_of_ble_eq_true rfl) (by simp [Value.category]) (wpt_X6_canPrint_0 ?_); unfold wp_X6_canPrint_0
  rw [h.r2, r5, r6, h.f6]
  refine ⟨h.oo, r0, h.oo, fun c => e33 0 (Or.inl ⟨rfl, fun z => z.1 c⟩) _, fun c => ⟨h.oo, h.oo, r0, fun c2 => e33 0 (Or.inl ⟨rfl, fun z => z.2 c2⟩) _, fun c2 => e33 1 (Or.inr ⟨rfl, c, c2⟩) _⟩⟩
theorem c_unitsFor (h : OF w S r m X) {d a : Nat} (hd : d < 4) (ha : a < nA S) : zMet E l mX6_unitsFor 0 0 [.int (Int32.ofNat d), .ref (zp (32 + w) a)] X (zI (ztakes S d a) X) := by
  have hv := (h.so.vd ha).2.2.1
  have hj := h.rj.2.1 a
  refine z_meth (by decide) (Nat.le_of_ble_eq_true rfl) (by simp [Value.category]) (wpt_X6_unitsFor_0 ?_); unfold wp_X6_unitsFor_0
  rw [h.a11 ha, hv]
  match d, hd with
  | 0, _ =>
    refine ie (by decide) ⟨h.ob ha, fun c => ⟨?_, rfl⟩, fun c => ⟨?_, rfl⟩⟩
    · unfold ztakes
      rw [if_pos rfl, if_pos (i_nlt.mp (hj.resolve_left c))]
    · unfold ztakes
      rw [if_pos rfl, if_neg (by rw [Classical.not_not.mp c]; decide)]
  | 1, _ => exact it (by decide) (ie (by decide) ⟨h.ob ha, h.vo ha, rfl, rfl⟩)
  | 2, _ => exact it (by decide) (it (by decide) (ie (by decide) ⟨rfl, rfl⟩))
  | 3, _ => exact it (by decide) (it (by decide) (it (by decide) ⟨rfl, rfl⟩))
theorem c_arrive (h : OF w S r m X) {a : Nat} (ha : a < nA S) : zMet E l mX6_arrive 0 0 [.ref (zp (224 + w) 0), .ref (zp (32 + w) a)] X (zVx (fun X' => OF w (zgets S a) r m X' ∧ zfr (TW w) X X')) := by
  have hw := h.w2
  refine z_meth (by decide) (Nat.le_of_ble_eq_true rfl) (by simp [Value.category]) (wpt_X6_arrive_0 ?_); unfold wp_X6_arrive_0
  refine ⟨h.ob ha, fun G1 e1 => ?_⟩
  have h1 : OF w (zup S 1165 (7 * a + 0) 7) r m G1 := by rw [e1]; exact h.putA (Or.inl ⟨rfl, rfl⟩) (by omega)
  have f1 : zfr (TW w) X G1 := by rw [e1]; exact frA hw zfr.rf
  rw [h1.f6]
  refine ⟨h1.oo, h1.ob (by rw [nA_up (by omega)]; exact ha), fun G2 e2 => ?_⟩
  have h2 : OF w (zgets2 S a) r m G2 := by
    have := h1.putA (a := a) (j := 3) (k := 12) (v := S 416 1) (by unfold gk; omega) (by omega)
    rw [e2, zup_ne (by omega)]; exact this
  have f2 : zfr (TW w) X G2 := by rw [e2]; exact frA hw f1
  have hA2 : nA (zgets2 S a) = nA S := by unfold zgets2; rw [nA_up (by omega), nA_up (by omega)]
  have ha2 : a < nA (zgets2 S a) := by rw [hA2]; exact ha
  have e0 : ∀ t k, t ≠ 1165 → zgets2 S a t k = S t k := fun t k h => by unfold zgets2; rw [zup_ne (by omega), zup_ne (by omega)]
  obtain ⟨-, v1, -, v3, -, -⟩ := h2.so.vd ha2
  have hb := h.rj.2.2.1 a
  rw [v3, h2.a12 ha2, h2.a4 ha2, e0 1164 _ (by decide), e0 1156 _ (by decide), show zgets2 S a 1165 (7 * a + 3) = S 416 1 from zup_s _ _ _ _]
  refine ⟨h2.ob ha2, h2.vo ha2, fun c => ⟨rfl, ?_, f2⟩, fun c => ⟨h2.ob ha2, h2.ob ha2, h2.ob ha2, h2.vo ha2, fun c2 => ⟨rfl, ?_, f2⟩, fun c2 => ⟨h2.ob ha2, fun G3 e3 => ?_⟩⟩⟩
  · unfold zgets; rw [if_pos (Or.inl (by rw [c]; decide))]; exact h2
  · unfold zgets; rw [if_pos (Or.inr (i_nlt.mpr c2))]; exact h2
  · have h3 : OF w (zup (zgets2 S a) 1165 (7 * a + 6) 1) r m G3 := by rw [e3]; exact h2.putA (by unfold gk; omega) (by omega)
    have f3 : zfr (TW w) X G3 := by rw [e3]; exact frA hw f2
    have ha3 : a < nA (zup (zgets2 S a) 1165 (7 * a + 6) 1) := by rw [nA_up (by omega)]; exact ha2
    rw [(h3.so.vd ha3).2.1, h3.f10, zup_ne (by omega), zup_ne (by omega), e0 _ _ (by omega), e0 _ _ (by omega)]
    refine ⟨h3.oo, h3.ob ha3, h3.vo ha3, h3.oo, fun G4 e4 => ⟨rfl, ?_, ?_⟩⟩
    · unfold zgets
      rw [if_neg (by rintro (z | z); · exact (hb.resolve_left c) z
                     · exact c2 (i_nlt.mp z)), e4]
      exact h3.putO (by unfold ok9; omega) (by omega) (by omega)
    · rw [e4]; exact frO hw f3
theorem c_read (h : OF w S r m X) {a : Nat} (ha : a < nA S) : zMet E l mX6_read 1 0 [.ref (zp (224 + w) 0), .ref (zp (32 + w) a)] X (zVx (fun X' => OF w (zread S a) r m X' ∧ zfr (TW w) X X')) := by
  have hw := h.w2
  refine z_meth (by decide) (Nat.le_of_ble_eq_true rfl) (by simp [Value.category]) (wpt_X6_read_0 ?_); unfold wp_X6_read_0
  rw [h.f6]
  refine ⟨h.oo, h.ob ha, fun G1 e1 => ?_⟩
  have h1 : OF w (zup S 1165 (7 * a + 2) (S 416 1)) r m G1 := by rw [e1]; exact h.putA (by unfold gk; omega) (fun _ => h.rj.2.2.2)
  have f1 : zfr (TW w) X G1 := by rw [e1]; exact frA hw zfr.rf
  have ha1 : a < nA (zup S 1165 (7 * a + 2) (S 416 1)) := by rw [nA_up (by omega)]; exact ha
  have el : rLacks (zup S 1165 (7 * a + 2) (S 416 1)) a = rLacks S a := by unfold rLacks; rw [zup_ne (by omega), zup_ne (by omega)]
  refine ⟨h1.ob ha1, cI (c_lacking h1.so hw ha1) (by decide) ?_⟩
  rw [el]
  unfold zread
  refine ⟨fun c => ⟨h1.ob ha1, fun G2 e2 => ?_⟩, fun c => ⟨h1.ob ha1, fun G2 e2 => ⟨rfl, ?_, ?_⟩⟩⟩
  · rw [if_neg c, if_neg c]
    have h2 : OF w (zup (zup S 1165 (7 * a + 2) (S 416 1)) 1165 (7 * a + 0) 1) r m G2 := by rw [e2]; exact h1.putA (by unfold gk; omega) (by omega)
    have ha2 : a < nA (zup (zup S 1165 (7 * a + 2) (S 416 1)) 1165 (7 * a + 0) 1) := by rw [nA_up (by omega)]; exact ha1
    rw [h2.a14 ha2, zup_ne (by omega), zup_ne (by omega)]
    refine ⟨h2.ob ha2, h2.ob ha2, fun G3 e3 => ⟨rfl, ?_, ?_⟩⟩
    · rw [e3]; exact h2.putA (by unfold gk; omega) (by omega)
    · rw [e3, e2]; exact frA hw (frA hw f1)
  · have c := Classical.not_not.mp c
    rw [if_pos c, if_pos c, e2, Int32.add_zero]
    have h2 : OF w (zup (zup S 1165 (7 * a + 2) (S 416 1)) 1165 (7 * a + 0) 2) r m (zsi G1 (zp (32 + w) a) 7 2) := h1.putA (by unfold gk; omega) (by omega)
    have : zup (zup (zup S 1165 (7 * a + 2) (S 416 1)) 1165 (7 * a + 0) 2) 1165 (7 * a + 5) (S 1165 (7 * a + 5)) = zup (zup S 1165 (7 * a + 2) (S 416 1)) 1165 (7 * a + 0) 2 := by
      funext t k
      rw [zup_at]
      split
      · next hc => rw [hc.1, hc.2, zup_ne (by omega), zup_ne (by omega)]
      · rfl
    rw [this]; exact h2
  · rw [e2]; exact frA hw f1
theorem c_check (h : OF w S r m X) {a : Nat} (ha : a < nA S) : zMet E l mX6_check 5 0 [.ref (zp (224 + w) 0), .ref (zp (32 + w) a)] X (zVx (fun X' => OF w (zchk S a) r m X' ∧ zfr (TW w) X X')) := by
  have hw := h.w2
  have hp := (h.pl ha).2
  have hN := h.ri.2.1.2
  obtain ⟨r0, r1, r2, r3, -, -, -, -⟩ := h.cr
  obtain ⟨-, -, v2, -, v4, -⟩ := h.so.vd ha
  have fin : ∀ v, v = zst S a → ∀ G9, G9 = zsi X (zp (32 + w) a) 7 v → zVx (fun X' => OF w (zchk S a) r m X' ∧ zfr (TW w) X X') (.inl none) G9 := by
    intro v hv G9 e9
    refine ⟨rfl, ?_, ?_⟩
    · rw [e9]; unfold zchk; rw [← hv]; exact h.putA (by unfold gk; omega) (by omega)
    · rw [e9]; exact frA hw zfr.rf
  have e32 : ∀ s0 : Int32, (s0 = 0 ↔ ¬ (¬ S 2163 a = 0 ∨ ¬ S 1162 a ≤ S 416 39)) → ∀ k, zW E l mX6_check 5 0 X (zVx (fun X' => OF w (zchk S a) r m X' ∧ zfr (TW w) X X')) k 32 [some (.ref (zp (224 + w) 0)), some (.ref (zp (32 + w) a)), none] [.int s0] X := by
    intro s0 hs k
    have n2 := c_isNearOne (E := E) (l := l) h.cp h.rj.1 hN (p := pn S a) (v := 2) (by decide) hp
    have n0 := c_isNearOne (E := E) (l := l) h.cp h.rj.1 hN (p := pn S a) (v := 0) (by decide) hp
    refine wpt_X6_check_32 ?_; unfold wp_X6_check_32
    rw [h.r0, h.r2, h.a1 ha, r2]
    refine ⟨h.oo, h.ob ha, h.oo, r0, h.cp.1, cI n2 (by decide) ⟨fun c => ?_, fun c => ⟨h.ob ha, fin 9 ?_⟩⟩⟩
    · have c := zb_0.mp c
      rw [h.r0, h.r2, h.a1 ha, r2]
      refine ⟨h.oo, h.ob ha, h.oo, r0, h.cp.1, cI n0 (by decide) ⟨fun c2 => ⟨fun c3 => ⟨h.ob ha, fin 5 ?_⟩, fun c3 => ⟨h.ob ha, fin 4 ?_⟩⟩, fun c2 => ⟨h.ob ha, fin 3 ?_⟩⟩⟩
      · unfold zst; rw [if_neg c, if_neg (zb_0.mp c2), if_neg (hs.mp c3)]
      · unfold zst; rw [if_neg c, if_neg (zb_0.mp c2), if_pos (Classical.not_not.mp (fun z => c3 (hs.mpr z)))]
      · unfold zst; rw [if_neg c, if_pos (Classical.not_not.mp (fun z => c2 (zbz z)))]
    · unfold zst; rw [if_pos (Classical.not_not.mp (fun z => c (zbz z)))]
  refine z_meth (by decide) (Nat.le_of_ble_eq_true rfl) (by simp [Value.category]) (wpt_X6_check_0 ?_); unfold wp_X6_check_0
  rw [h.r2, v4, v2, r3]
  refine ⟨h.ob ha, h.vo ha, fun c => e32 1 ⟨fun z => absurd z (by decide), fun z => absurd (Or.inl c) z⟩ _, fun c => ⟨h.ob ha, h.vo ha, h.oo, r0, fun c2 => e32 0 ⟨fun _ z => z.elim (fun z => z (Classical.not_not.mp c)) (fun z => z c2), fun _ => rfl⟩ _, fun c2 => e32 1 ⟨fun z => absurd z (by decide), fun z => absurd (Or.inr c2) z⟩ _⟩⟩
end ZCd
