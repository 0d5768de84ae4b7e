/-! judging -/
/-- needs, fee, years, risk, back, see -/
abbrev ZJ : Type := Int32 × Int32 × Int32 × Int32 × Int32 × Int32
def jst (c : ZCLS) (a : ZJ) : ZJ :=
  if c.1 = 0 then (a.1 ||| c.2.1, a.2) else if c.1 = 1 then (a.1, a.2.1 + c.2.1, a.2.2) else if c.1 = 2 then (a.1, a.2.1, (if a.2.2.1 < c.2.1 then c.2.1 else a.2.2.1), a.2.2.2) else if c.1 = 3 then (a.1, a.2.1, a.2.2.1, a.2.2.2.1 + c.2.1, a.2.2.2.2) else if c.1 = 4 then (a.1, a.2.1, a.2.2.1, a.2.2.2.1, a.2.2.2.2.1, 1)
  else (a.1, a.2.1, a.2.2.1, a.2.2.2.1, (if 0 ≤ a.2.2.2.2.1 then (if c.2.1 < a.2.2.2.2.1 then c.2.1 else a.2.2.2.2.1) else c.2.1), a.2.2.2.2.2)
theorem jst_2 {c : ZCLS} {a : ZJ} (h : c.1 = 2) : jst c a = (a.1, a.2.1, (if a.2.2.1 < c.2.1 then c.2.1 else a.2.2.1), a.2.2.2) := by
  unfold jst; rw [if_neg (show ¬ c.1 = 0 by rw [h]; decide), if_neg (show ¬ c.1 = 1 by rw [h]; decide), if_pos h]
noncomputable def jall (F : Nat → Int32) : List ZCLS → ZJ → ZJ
  | [], a => a
  | c :: r, a => jall F r (@ite _ (hv F c.2.2) (Classical.propDecidable _) (jst c a) a)
def j0 : ZJ := (0, 0, -1, 0, -1, 0)
def jfin (a : ZJ) : ZJ := (a.1, a.2.1, (if 0 ≤ a.2.2.1 then a.2.2.1 else 10), a.2.2.2)
noncomputable def zfacts (S : ZS9) (p : Nat) (kind wanted urgent : Int32) : Nat → Int32 := fun i =>
  if i = 0 then (S 416 1 - S 1129 p) / 365 else if i = 1 then wanted - S 416 1 else if i = 2 then zcnt (zval S (Int32.ofNat p) (S 416 1)) (nB S) else if i = 3 then (if S 2130 p = 0 then 0 else 1) else if i = 4 then (if kind = 0 then 1 else 0) else if i = 5 then (if kind = 1 then 1 else 0) else if i = 6 then (if kind = 2 then 1 else 0) else if i = 7 then (if kind = 3 then 1 else 0) else (if urgent = 0 then 0 else 1)
theorem evs_cg {F F' : Nat → Int32} {c : ZCD} {st : List Bool} (h : ∀ i, i < 9 → F i = F' i) (hc : c = zNOT ∨ (c = zAND ∨ c = zOR) ∨ ∃ f, f < 9 ∧ c.1 = Int32.ofNat f) : evs F c st = evs F' c st := by
  rcases hc with rfl | (rfl | rfl) | ⟨f, hf, ef⟩
  · unfold evs; rw [if_pos (show zNOT.1 = 100 from rfl), if_pos (show zNOT.1 = 100 from rfl)]
  · unfold evs; rw [if_neg (show ¬ zAND.1 = 100 by decide), if_neg (show ¬ zAND.1 = 100 by decide), if_pos (show zAND.1 = 101 from rfl), if_pos (show zAND.1 = 101 from rfl)]
  · unfold evs; rw [if_neg (show ¬ zOR.1 = 100 by decide), if_neg (show ¬ zOR.1 = 100 by decide), if_neg (show ¬ zOR.1 = 101 by decide), if_neg (show ¬ zOR.1 = 101 by decide), if_pos (show zOR.1 = 102 from rfl), if_pos (show zOR.1 = 102 from rfl)]
  · unfold evs
    rw [ef, n_nn (by omega), h f hf]
theorem ev_cg {F F' : Nat → Int32} (h : ∀ i, i < 9 → F i = F' i) : ∀ {c : List ZCD} {a b : Nat} {st : List Bool}, okc c a b → ev F c st = ev F' c st
  | [], _, _, _, _ => rfl
  | c :: r, a, b, st, hk => by
    show ev F r (evs F c st) = ev F' r (evs F' c st)
    rcases hk with ⟨h1, -, h2⟩ | ⟨h1, -, h2⟩ | ⟨h1, h2⟩
    · rw [evs_cg h (Or.inl h1), ev_cg h h2]
    · rw [evs_cg h (Or.inr (Or.inl h1)), ev_cg h h2]
    · rw [evs_cg h (Or.inr (Or.inr h1)), ev_cg h h2]
/-- a law as it is kept -/
def okL (L : List ZCLS) : Prop := L.length ≤ 16 ∧ (zflat L).length ≤ 400 ∧ ∀ m, m < L.length → ((lcl L m).2.2 = [] ∨ okc (lcl L m).2.2 0 1) ∧ ∃ s, s < 6 ∧ (lcl L m).1 = Int32.ofNat s
theorem hv_cg {F F' : Nat → Int32} (h : ∀ i, i < 9 → F i = F' i) {c : List ZCD} (hc : c = [] ∨ okc c 0 1) : hv F c ↔ hv F' c := by
  unfold hv
  rcases hc with rfl | hc
  · rfl
  · rw [ev_cg h hc]
theorem zoff_add {L : List ZCLS} : ∀ {m : Nat}, m < L.length → zoff L (m + 1) = zoff L m + (lcl L m).2.2.length := by
  intro m hm
  unfold zoff lcl
  rw [List.take_add_one, zflat_app, List.length_append, List.getElem?_eq_getElem hm]
  show _ + (zflat [L[m]]).length = _
  rw [zflat_1]; rfl
theorem zoff_le {L : List ZCLS} : ∀ {m : Nat}, m ≤ L.length → zoff L m ≤ (zflat L).length := by
  intro m hm
  have h : L = L.take m ++ L.drop m := (List.take_append_drop m L).symm
  unfold zoff
  conv => rhs; rw [h]
  rw [zflat_app, List.length_append]; omega
/-- a clause's steps lie in the law's -/
theorem zflat_at {L : List ZCLS} {m i : Nat} (hm : m < L.length) (hi : i < (lcl L m).2.2.length) : zcat (zflat L) (zoff L m + i) = zcat (lcl L m).2.2 i := by
  have h : L = L.take m ++ ([L[m]] ++ L.drop (m + 1)) := by simp
  have e : lcl L m = L[m] := by unfold lcl; rw [List.getElem?_eq_getElem hm]; rfl
  have e1 : zflat L = zflat (L.take m) ++ ((lcl L m).2.2 ++ zflat (L.drop (m + 1))) := by
    conv => lhs; rw [h]
    rw [zflat_app, zflat_app, zflat_1, e]
  have e2 : zoff L m = (zflat (L.take m)).length := rfl
  rw [e1, e2, zcat_app, if_neg (by omega), show (zflat (L.take m)).length + i - (zflat (L.take m)).length = i by omega, zcat_app, if_pos hi]
/-- what judging changes -/
def zjx (t k : Nat) : Prop := t = 1121 ∨ t = 2122 ∨ (t = 416 ∧ 23 ≤ k ∧ k ≤ 28)
theorem zjx_scr {t k : Nat} (h : zjx t k) : zscr t k := by unfold zjx at h; unfold zscr; omega
def isJ (S : ZS9) (a : ZJ) : Prop := S 416 23 = a.1 ∧ S 416 24 = a.2.1 ∧ S 416 25 = a.2.2.1 ∧ S 416 26 = a.2.2.2.1 ∧ S 416 27 = a.2.2.2.2.1 ∧ S 416 28 = a.2.2.2.2.2
theorem jall_app {F : Nat → Int32} : ∀ {A B : List ZCLS} {a : ZJ}, jall F (A ++ B) a = jall F B (jall F A a)
  | [], B, a => rfl
  | c :: A, B, a => by
    show jall F (A ++ B) _ = jall F B (jall F A _)
    rw [jall_app]
/-- the law in force -/
def LW (S : ZS9) (L : List ZCLS) : Prop := match zlaw S (S 416 1) (nL S) with
  | none => L = []
  | some j => zLS S j L ∧ okL L
section ZRv
variable {E : ZE} {l : Launch} {S : ZS9}
theorem r_judges (hR : RI S) (hL : S 416 19 = Int32.ofNat (nL S) ∧ nL S ≤ 12) {p : Nat} {kind wanted urgent : Int32} {L : List ZCLS} (hp : p < nP S) (hk : inn kind 0 3) (hb : ¬ S 416 1 - S 1129 p < 0) (hLW : LW S L) :
    rMet E l mX12_judges 1 0 [.int (Int32.ofNat p), .int kind, .int wanted, .int urgent] S (rW (fun S' => isJ S' (jfin (jall (zfacts S p kind wanted urgent) L j0)) ∧ ∀ t k, ¬ zjx t k → S' t k = S t k)) := by
  have hP := hR.2.1
  have hB := hR.2.2.1
  refine r_meth (by decide) (Nat.le_of_ble_eq_true rfl) (by simp [Value.category]) (fun G hK => rwpt_X12_judges_0 hK ?_); unfold rwp_X12_judges_0
  rw [n_nn (by omega)]
  refine ⟨n_in (by omega) (by omega), sI (fun _ => c_floor (d := 0) (b := 0) hb (by decide)) (by decide) ⟨n_in (i := 0) (by omega) (by omega), fun S2 e2 => ⟨n_in (i := 1) (by omega) (by omega), fun S3 e3 => ?_⟩⟩⟩
  have v0 : (0 : Int32).toNatClampNeg = 0 := by decide
  have v1 : (1 : Int32).toNatClampNeg = 1 := by decide
  have v2 : (2 : Int32).toNatClampNeg = 2 := by decide
  have v3 : (3 : Int32).toNatClampNeg = 3 := by decide
  rw [v0] at e2; rw [v1] at e3
  have f3 : ∀ t k, t ≠ 1121 → S3 t k = S t k := fun t k ht => by rw [e3, zup_ne (by omega), e2, zup_ne (by omega)]
  rw [f3 416 1 (by decide)]
  refine gI (r_validOf (n := nB S) (by rw [f3 _ _ (by decide), hB.1]) hB.2) (by decide) ⟨n_in (i := 2) (by omega) (by omega), fun S7 e7 => ⟨n_in (by omega) (by omega), ?_⟩⟩
  rw [v2] at e7
  have ev3 : zcnt (zval S3 (Int32.ofNat p) (S 416 1)) (nB S) = zcnt (zval S (Int32.ofNat p) (S 416 1)) (nB S) := zval_cg (fun t k h => f3 t k (by omega)) _ _ _
  rw [ev3] at e7
  have e21 : S2 416 1 = S 416 1 := by rw [e2, zup_ne (by omega)]
  rw [e21] at e3
  have f7 : ∀ t k, t ≠ 1121 → S7 t k = S t k := fun t k ht => by rw [e7, zup_ne (by omega)]; exact f3 t k ht
  have g7 : ∀ i, i < 3 → S7 1121 i = zfacts S p kind wanted urgent i := by
    intro i hi
    match i, hi with
    | 0, _ => rw [e7, zup_ne (by omega), e3, zup_ne (by omega), e2, zup_s]; rfl
    | 1, _ => rw [e7, zup_ne (by omega), e3, zup_s]; rfl
    | 2, _ => rw [e7, zup_s]; rfl
  clear e7 e3 e2 ev3 e21
  obtain ⟨kd, hkd, rfl⟩ := inn_nat (n := 3) (by omega) hk
  generalize hF : zfacts S p (Int32.ofNat kd) wanted urgent = F at *
  have fk : ∀ i, i < 4 → F (4 + i) = if Int32.ofNat kd = Int32.ofNat i then 1 else 0 := by
    intro i hi
    rw [← hF]
    match i, hi with
    | 0, _ => rfl
    | 1, _ => rfl
    | 2, _ => rfl
    | 3, _ => rfl
  have f8 : F 8 = if urgent = 0 then 0 else 1 := by rw [← hF]; rfl
  have f9 : F 3 = if S 2130 p = 0 then 0 else 1 := by rw [← hF]; rfl
  -- the clauses
  have last : ∀ T, (∀ t k, ¬ zjx t k → T t k = S t k) → isJ T j0 → (∀ i, i < 9 → T 1121 i = F i) → ∀ k, rcI E l mX12_lawOf 1 [.int (T 416 1)] T k (fun y10 S8 k9 => zW E l mX12_judges 1 0 (zput G S) (rQ G (rW (fun S' => isJ S' (jfin (jall F L j0)) ∧ ∀ t k, ¬ zjx t k → S' t k = S t k))) k9 165 [some (.ref (zp 416 0)), none, none, none, none, some (.int y10), some (.int 0), none] [] (zput G S8)) := by
    intro T hT hJ hF9 k
    have el : zlaw T (S 416 1) (nL S) = zlaw S (S 416 1) (nL S) := zlaw_cg (fun j _ => hT _ _ (by unfold zjx; omega))
    rw [hT 416 1 (by unfold zjx; omega)]
    refine gI (r_lawOf (n := nL S) (by rw [hT _ _ (by unfold zjx; omega), hL.1]) hL.2) (by decide) ?_
    rw [el]
    have fin : ∀ (a : ZJ) U, (∀ t k, ¬ zjx t k → U t k = S t k) → isJ U a → ((0 ≤ U 416 25 → rW (fun S' => isJ S' (jfin a) ∧ ∀ t k, ¬ zjx t k → S' t k = S t k) none U) ∧ (¬ 0 ≤ U 416 25 → ∀ S1, S1 = zup U 416 25 10 → rW (fun S' => isJ S' (jfin a) ∧ ∀ t k, ¬ zjx t k → S' t k = S t k) none S1)) := by
      rintro a U hU ⟨j1, j2, j3, j4, j5, j6⟩
      rw [j3]
      refine ⟨fun h => ⟨rfl, ⟨j1, j2, ?_, j4, j5, j6⟩, hU⟩, fun h S1 e1 => ⟨rfl, ⟨?_, ?_, ?_, ?_, ?_, ?_⟩, fun t k hc => ?_⟩⟩
      · show _ = if 0 ≤ a.2.2.1 then a.2.2.1 else 10
        rw [if_pos h, j3]
      · rw [e1, zup_ne (by omega)]; exact j1
      · rw [e1, zup_ne (by omega)]; exact j2
      · show _ = if 0 ≤ a.2.2.1 then a.2.2.1 else 10
        rw [if_neg h, e1, zup_s]
      · rw [e1, zup_ne (by omega)]; exact j4
      · rw [e1, zup_ne (by omega)]; exact j5
      · rw [e1, zup_ne (by omega)]; exact j6
      · rw [e1, zup_ne (fun z => hc (by unfold zjx; omega))]; exact hU t k hc
    unfold LW at hLW
    cases hz : zlaw S (S 416 1) (nL S) with
    | none =>
      rw [hz] at hLW
      have hLW : L = [] := hLW
      rw [hLW]
      refine rwpt_X12_judges_165 hK ?_; unfold rwp_X12_judges_165
      exact it (by decide) (fin j0 T hT hJ)
    | some j =>
      rw [hz] at hLW
      obtain ⟨⟨s1, s2, s3, s4, s5⟩, o1, o2, o3⟩ := hLW
      have hj := zlaw_lt hz
      have hj13 : j < 12 := by omega
      show zW E l mX12_judges 1 0 _ _ _ 165 [some (.ref (zp 416 0)), none, none, none, none, some (.int (Int32.ofNat j)), some (.int 0), none] [] _
      have key : ∀ m, m ≤ L.length → ∀ U, (∀ t k, ¬ zjx t k → U t k = S t k) → isJ U (jall F (L.take m) j0) → (∀ i, i < 9 → U 1121 i = F i) → ∀ k, zW E l mX12_judges 1 0 (zput G S) (rQ G (rW (fun S' => isJ S' (jfin (jall F L j0)) ∧ ∀ t k, ¬ zjx t k → S' t k = S t k))) k 165 [some (.ref (zp 416 0)), none, none, none, none, some (.int (Int32.ofNat j)), some (.int (Int32.ofNat m)), none] [] (zput G U) := by
        refine zdown (fun U hU hJ9 hF8 k => ?_) (fun m hm ih U hU hJ9 hF8 k => ?_)
        · rw [List.take_length] at hJ9
          refine rwpt_X12_judges_165 hK ?_; unfold rwp_X12_judges_165
          rw [n_nn (by omega), hU 1111 _ (by unfold zjx; omega), s1]
          exact ie (n_neg (by omega)) ⟨n_in (by omega) (by omega), it (by rw [n_le (by omega) (by omega)]; omega) (fin _ U hU hJ9)⟩
        · obtain ⟨w1, w2, w3, w4⟩ := s4 m hm
          obtain ⟨ok1, s, hs6, es⟩ := o3 m hm
          have hoff := zoff_add hm
          have hoff2 := zoff_le (L := L) (m := m + 1) (by omega)
          have htake : jall F (L.take (m + 1)) j0 = @ite _ (hv F (lcl L m).2.2) (Classical.propDecidable _) (jst (lcl L m) (jall F (L.take m) j0)) (jall F (L.take m) j0) := by
            rw [List.take_add_one, jall_app, List.getElem?_eq_getElem hm]
            have e : lcl L m = L[m] := by unfold lcl; rw [List.getElem?_eq_getElem hm]; rfl
            rw [e]; rfl
          rw [htake] at ih
          refine rwpt_X12_judges_165 hK ?_; unfold rwp_X12_judges_165
          rw [show (16 : Int32) = Int32.ofNat 16 from rfl, n_mul, n_add, n_nn (by omega), n_nn (by omega), n_p1, hU 1111 _ (by unfold zjx; omega), s1, hU 1114 _ (by unfold zjx; omega), hU 1115 _ (by unfold zjx; omega), w3, w4]
          have vv : vp_in (Int32.ofNat (16 * j + m)) 208 := n_in (by omega) (by omega)
          refine ie (n_neg (by omega)) ⟨n_in (by omega) (by omega), ie (by rw [n_le (by omega) (by omega)]; omega) ⟨vv, vv, ?_⟩⟩
          refine gX (r_holds (c := (lcl L m).2.2) (by omega) (by omega) ok1 (fun i hi => ?_)) (by decide) ?_
          · obtain ⟨q1, q2, q3⟩ := s5 (zoff L m + i) (by omega)
            rw [zflat_at hm hi] at q1 q2 q3
            rw [hU _ _ (by unfold zjx; omega), hU _ _ (by unfold zjx; omega), hU _ _ (by unfold zjx; omega), show 400 * j + zoff L m + i = 400 * j + (zoff L m + i) by omega]
            exact ⟨q1, q2, q3⟩
          · rintro y V ⟨rfl, hV⟩
            have hV2 : ∀ t k, ¬ zjx t k → V t k = S t k := fun t k hc => by rw [hV t k (fun e => hc (by unfold zjx; omega))]; exact hU t k hc
            have hV9 : ∀ i, i < 9 → V 1121 i = F i := fun i hi => by rw [hV _ _ (by decide)]; exact hF8 i hi
            have hJV : isJ V (jall F (L.take m) j0) := by
              obtain ⟨j1, j2, j3, j4, j5, j6⟩ := hJ9
              exact ⟨by rw [hV _ _ (by decide)]; exact j1, by rw [hV _ _ (by decide)]; exact j2, by rw [hV _ _ (by decide)]; exact j3, by rw [hV _ _ (by decide)]; exact j4, by rw [hV _ _ (by decide)]; exact j5, by rw [hV _ _ (by decide)]; exact j6⟩
            have hvc : hv (U 1121) (lcl L m).2.2 ↔ hv F (lcl L m).2.2 := hv_cg (fun i hi => hF8 i hi) ok1
            generalize jall F (L.take m) j0 = a at *
            rw [zb_0, hvc, hV2 1112 _ (by unfold zjx; omega), hV2 1113 _ (by unfold zjx; omega), w1]
            refine ⟨fun h => ⟨vv, ?_⟩, fun h => ?_⟩
            · have h := Classical.not_not.mp h
              rw [if_pos h] at ih
              obtain ⟨j1, j2, j3, j4, j5, j6⟩ := hJV
              -- one counter set
              have put : ∀ k9 x, 23 ≤ k9 → k9 ≤ 28 → isJ (zup V 416 k9 x) (jst (lcl L m) a) → ∀ k, zW E l mX12_judges 1 0 (zput G S) (rQ G (rW (fun S' => isJ S' (jfin (jall F L j0)) ∧ ∀ t k, ¬ zjx t k → S' t k = S t k))) k 165 [some (.ref (zp 416 0)), none, none, none, none, some (.int (Int32.ofNat j)), some (.int (Int32.ofNat (m + 1))), none] [] (zput G (zup V 416 k9 x)) := by
                intro k9 x h1 h2 hj9 k
                refine ih _ (fun t k hc => ?_) hj9 (fun i hi => ?_) k
                · rw [zup_ne (fun z => hc (by unfold zjx; omega))]; exact hV2 t k hc
                · rw [zup_ne (by omega)]; exact hV9 i hi
              have es2 : ∀ s', s' < 6 → (lcl L m).1 = Int32.ofNat s' → s' = s := fun s' h1 h2 => by rw [es, n_inj (by omega) (by omega)] at h2; exact h2.symm
              have w2' : (lcl L m).1 ≠ 4 → S 1113 (16 * j + m) = (lcl L m).2.1 := w2
              refine ⟨fun c0 => ⟨vv, fun S6 e6 => ?_⟩, fun c0 => ⟨vv, fun S6 e6 => ?_⟩, fun c0 => ⟨vv, sI (fun _ => s_max _ _) (by decide) (fun S6 e6 => ?_)⟩, fun c0 => ⟨vv, fun S6 e6 => ?_⟩, fun c0 S6 e6 => ?_, fun n0 n1 n2 n3 n4 => ⟨fun c0 => ⟨vv, sI (fun _ => s_min _ _) (by decide) (fun S6 e6 => ?_)⟩, fun c0 => ⟨vv, fun S6 e6 => ?_⟩⟩⟩
              · rw [e6]
                refine put _ _ (by omega) (by omega) ?_ _
                unfold jst; rw [if_pos c0]
                exact ⟨by rw [zup_s, j1, w2' (by rw [c0]; decide)], by rw [zup_ne (by omega)]; exact j2, by rw [zup_ne (by omega)]; exact j3, by rw [zup_ne (by omega)]; exact j4, by rw [zup_ne (by omega)]; exact j5, by rw [zup_ne (by omega)]; exact j6⟩
              · rw [e6]
                refine put _ _ (by omega) (by omega) ?_ _
                unfold jst; rw [if_neg (by rw [c0]; decide), if_pos c0]
                exact ⟨by rw [zup_ne (by omega)]; exact j1, by rw [zup_s, j2, w2' (by rw [c0]; decide)], by rw [zup_ne (by omega)]; exact j3, by rw [zup_ne (by omega)]; exact j4, by rw [zup_ne (by omega)]; exact j5, by rw [zup_ne (by omega)]; exact j6⟩
              · rw [e6]
                refine put _ _ (by omega) (by omega) ?_ _
                rw [jst_2 c0]
                exact ⟨by rw [zup_ne (by omega)]; exact j1, by rw [zup_ne (by omega)]; exact j2, by rw [zup_s, j3, w2' (by rw [c0]; decide)], by rw [zup_ne (by omega)]; exact j4, by rw [zup_ne (by omega)]; exact j5, by rw [zup_ne (by omega)]; exact j6⟩
              · rw [e6]
                refine put _ _ (by omega) (by omega) ?_ _
                unfold jst; rw [if_neg (by rw [c0]; decide), if_neg (by rw [c0]; decide), if_neg (by rw [c0]; decide), if_pos c0]
                exact ⟨by rw [zup_ne (by omega)]; exact j1, by rw [zup_ne (by omega)]; exact j2, by rw [zup_ne (by omega)]; exact j3, by rw [zup_s, j4, w2' (by rw [c0]; decide)], by rw [zup_ne (by omega)]; exact j5, by rw [zup_ne (by omega)]; exact j6⟩
              · rw [e6]
                refine put _ _ (by omega) (by omega) ?_ _
                unfold jst; rw [if_neg (by rw [c0]; decide), if_neg (by rw [c0]; decide), if_neg (by rw [c0]; decide), if_neg (by rw [c0]; decide), if_pos c0]
                exact ⟨by rw [zup_ne (by omega)]; exact j1, by rw [zup_ne (by omega)]; exact j2, by rw [zup_ne (by omega)]; exact j3, by rw [zup_ne (by omega)]; exact j4, by rw [zup_ne (by omega)]; exact j5, by rw [zup_s]⟩
              · rw [e6]
                rw [j5] at c0
                refine put _ _ (by omega) (by omega) ?_ _
                unfold jst; rw [if_neg n0, if_neg n1, if_neg n2, if_neg n3, if_neg n4]
                exact ⟨by rw [zup_ne (by omega)]; exact j1, by rw [zup_ne (by omega)]; exact j2, by rw [zup_ne (by omega)]; exact j3, by rw [zup_ne (by omega)]; exact j4, by rw [zup_s, j5, w2' n4]; show _ = (if _ then _ else _); rw [if_pos c0], by rw [zup_ne (by omega)]; exact j6⟩
              · rw [e6]
                rw [j5] at c0
                refine put _ _ (by omega) (by omega) ?_ _
                unfold jst; rw [if_neg n0, if_neg n1, if_neg n2, if_neg n3, if_neg n4]
                exact ⟨by rw [zup_ne (by omega)]; exact j1, by rw [zup_ne (by omega)]; exact j2, by rw [zup_ne (by omega)]; exact j3, by rw [zup_ne (by omega)]; exact j4, by rw [zup_s, w2' n4]; show _ = (if _ then _ else _); rw [if_neg c0], by rw [zup_ne (by omega)]; exact j6⟩
            · have h : ¬ hv F (lcl L m).2.2 := Classical.not_not.mp h
              rw [if_neg h] at ih
              exact ih V hV2 hJV hV9 _
      exact key 0 (by omega) T hT hJ hF9 _
  have l121 : ∀ x T, x = F 8 → (∀ t k, ¬ zjx t k → T t k = S t k) → (∀ i, i < 8 → T 1121 i = F i) → ∀ k, zW E l mX12_judges 1 0 (zput G S) (rQ G (rW (fun S' => isJ S' (jfin (jall F L j0)) ∧ ∀ t k, ¬ zjx t k → S' t k = S t k))) k 121 [some (.ref (zp 416 0)), none, none, none, none, none, none, none] [.int x, .int 8, .ref (zp 1121 0)] (zput G T) := by
    intro x T hx hT h8 k
    refine rwpt_X12_judges_121 hK ?_; unfold rwp_X12_judges_121
    rw [show (8 : Int32).toNatClampNeg = 8 from by decide]
    refine ⟨n_in (i := 8) (by omega) (by omega), fun T1 q1 T2 q2 T3 q3 T4 q4 T5 q5 T6 q6 T7 q7 => ?_⟩
    refine last T7 (fun t k hc => ?_) ⟨?_, ?_, ?_, ?_, ?_, ?_⟩ (fun i hi => ?_) _
    · rw [q7, q6, q5, q4, q3, q2, q1, zup_ne (fun z => hc (by unfold zjx; omega)), zup_ne (fun z => hc (by unfold zjx; omega)), zup_ne (fun z => hc (by unfold zjx; omega)), zup_ne (fun z => hc (by unfold zjx; omega)), zup_ne (fun z => hc (by unfold zjx; omega)), zup_ne (fun z => hc (by unfold zjx; omega)), zup_ne (fun z => hc (by unfold zjx; omega))]; exact hT t k hc
    · rw [q7, q6, q5, q4, q3, q2, zup_ne (by omega), zup_ne (by omega), zup_ne (by omega), zup_ne (by omega), zup_ne (by omega), zup_s]; rfl
    · rw [q7, q6, q5, q4, q3, zup_ne (by omega), zup_ne (by omega), zup_ne (by omega), zup_ne (by omega), zup_s]; rfl
    · rw [q7, q6, q5, q4, zup_ne (by omega), zup_ne (by omega), zup_ne (by omega), zup_s]; rfl
    · rw [q7, q6, q5, zup_ne (by omega), zup_ne (by omega), zup_s]; rfl
    · rw [q7, q6, zup_ne (by omega), zup_s]; rfl
    · rw [q7, zup_s]; rfl
    · rw [q7, q6, q5, q4, q3, q2, zup_ne (by omega), zup_ne (by omega), zup_ne (by omega), zup_ne (by omega), zup_ne (by omega), zup_ne (by omega), q1]
      by_cases e : i = 8
      · subst e; rw [zup_s, hx]
      · rw [zup_ne (by omega)]; exact h8 i (by omega)
  have l73 : ∀ i, i ≤ 4 → ∀ T, (∀ t k, ¬ zjx t k → T t k = S t k) → (∀ j, j < 4 + i → T 1121 j = F j) → ∀ k, zW E l mX12_judges 1 0 (zput G S) (rQ G (rW (fun S' => isJ S' (jfin (jall F L j0)) ∧ ∀ t k, ¬ zjx t k → S' t k = S t k))) k 73 [some (.ref (zp 416 0)), none, some (.int (Int32.ofNat kd)), none, some (.int urgent), some (.int (Int32.ofNat i)), none, none] [] (zput G T) := by
    refine zdown (fun T hT h8 k => ?_) (fun i hi ih T hT h8 k => ?_)
    · refine rwpt_X12_judges_73 hK ?_; unfold rwp_X12_judges_73
      refine it (by decide) ⟨fun h => l121 0 T ?_ hT (fun i hi => h8 i (by omega)) _, fun h => l121 1 T ?_ hT (fun i hi => h8 i (by omega)) _⟩
      · rw [f8, if_pos h]
      · rw [f8, if_neg h]
    · refine rwpt_X12_judges_73 hK ?_; unfold rwp_X12_judges_73
      rw [n_p1, show (4 : Int32) = Int32.ofNat 4 from rfl, n_add, n_nn (by omega)]
      have next : ∀ x U, U = zup T 1121 (4 + i) x → x = F (4 + i) → ∀ k, zW E l mX12_judges 1 0 (zput G S) (rQ G (rW (fun S' => isJ S' (jfin (jall F L j0)) ∧ ∀ t k, ¬ zjx t k → S' t k = S t k))) k 73 [some (.ref (zp 416 0)), none, some (.int (Int32.ofNat kd)), none, some (.int urgent), some (.int (Int32.ofNat (i + 1))), none, none] [] (zput G U) := by
        intro x U hU hx k
        refine ih U (fun t k hc => ?_) (fun j hj => ?_) k
        · rw [hU, zup_ne (fun z => hc (by unfold zjx; omega))]; exact hT t k hc
        · rw [hU]
          by_cases e : j = 4 + i
          · subst e; rw [zup_s, hx]
          · rw [zup_ne (by omega)]; exact h8 j (by omega)
      refine ie (by rw [n_le (by omega) (by omega)]; omega) ⟨fun h => ⟨n_in (by omega) (by omega), fun U eU => next 0 U eU ?_ _⟩, fun h => ⟨n_in (by omega) (by omega), fun U eU => next 1 U eU ?_ _⟩⟩
      · rw [fk i hi, if_neg h]
      · rw [fk i hi, if_pos (Classical.not_not.mp h)]
  have s7 : ∀ x U, U = zup S7 1121 3 x → x = F 3 → ∀ k, zW E l mX12_judges 1 0 (zput G S) (rQ G (rW (fun S' => isJ S' (jfin (jall F L j0)) ∧ ∀ t k, ¬ zjx t k → S' t k = S t k))) k 73 [some (.ref (zp 416 0)), none, some (.int (Int32.ofNat kd)), none, some (.int urgent), some (.int 0), none, none] [] (zput G U) := by
    intro x U hU hx k
    refine l73 0 (by omega) U (fun t k hc => ?_) (fun j hj => ?_) k
    · rw [hU, zup_ne (fun z => hc (by unfold zjx; omega))]; exact f7 t k (fun e => hc (by unfold zjx; omega))
    · rw [hU]
      by_cases e : j = 3
      · subst e; rw [zup_s, hx]
      · rw [zup_ne (by omega)]; exact g7 j (by omega)
  rw [f7 2130 _ (by decide), v3]
  exact ⟨fun h => ⟨n_in (i := 3) (by omega) (by omega), fun U eU => s7 0 U eU (by rw [f9, if_pos h]) _⟩, fun h => ⟨n_in (i := 3) (by omega) (by omega), fun U eU => s7 1 U eU (by rw [f9, if_neg h]) _⟩⟩
end ZRv
