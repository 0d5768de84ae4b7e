/-! public methods: waits -/
/-- a row of numbers, put in one after the other -/
noncomputable def isl (f : Nat → Int32) : Nat → List Int32
  | 0 => []
  | k + 1 => pins vgt (f k) (isl f k)
theorem isl_len {f : Nat → Int32} : ∀ {k : Nat}, (isl f k).length = k
  | 0 => rfl
  | k + 1 => by unfold isl; rw [pins_len, isl_len]
theorem isl_sort {f : Nat → Int32} : ∀ {k : Nat}, (isl f k).Pairwise (fun x y => ¬ vgt x y)
  | 0 => List.Pairwise.nil
  | k + 1 => pins_sort vgt_tr vgt_as isl_sort
theorem isl_cg {f f' : Nat → Int32} : ∀ {k : Nat}, (∀ j, j < k → f j = f' j) → isl f k = isl f' k
  | 0, _ => rfl
  | k + 1, h => by
    unfold isl
    rw [h k (by omega), isl_cg (fun j hj => h j (by omega))]
theorem isl_wts {S : ZS9} {L : List Nat} {s : Nat} {f : Nat → Int32} : ∀ {k : Nat}, (∀ j, j < k → f j = zspan S (zat L (s + j))) → isl f k = zwts S L s k
  | 0, _ => rfl
  | k + 1, h => by
    unfold isl zwts
    rw [h k (by omega), isl_wts (fun j hj => h j (by omega))]
theorem latI_map {L : List Nat} {f : Nat → Int32} {j : Nat} (h : j < L.length) : latI (L.map f) j = f (zat L j) := by
  unfold latI zat
  rw [List.getElem?_map, List.getElem?_eq_getElem h]
  rfl
theorem pins_map {α β : Type} {g1 : α → α → Prop} {g2 : β → β → Prop} {f : α → β} {v : α} : ∀ {L : List α}, (∀ b ∈ L, g1 b v ↔ g2 (f b) (f v)) → (pins g1 v L).map f = pins g2 (f v) (L.map f)
  | [], _ => rfl
  | b :: L, h => by
    show (pins g1 v (b :: L)).map f = pins g2 (f v) (f b :: L.map f)
    unfold pins
    have hb := h b List.mem_cons_self
    by_cases c : g1 b v
    · rw [if_pos c, if_pos (hb.mp c)]; rfl
    · rw [if_neg c, if_neg (fun z => c (hb.mpr z)), List.map_cons, pins_map (fun x hx => h x (List.mem_cons_of_mem _ hx))]
/-- an asking's key: the day on which it was got, its number, its wait -/
def zkey (S : ZS9) (a : Nat) : Int32 := (S 1165 (7 * a + 3) * 120 + Int32.ofNat a) * 1024 + zspan S a
section ZDa
variable {E : ZE} {l : Launch} {K : ZG} {w m n1 m1 : Nat} {S S' : ZS9} {r : Int32} {X X' : ZG}
theorem zIn.ar {X G : ZG} {q q' c : Nat} (h : zIn X G q) (ho : zar X q' c) : zar G q' c := ⟨by unfold zal; rw [h.1]; exact ho.1, ho.2⟩
theorem c_sort {q n : Nat} (ha : zar X q 0) (hn : n ≤ zln X q) (hl : zln X q ≤ 1000) : zMet E l mX11_sort 0 0 [.ref q, .int (Int32.ofNat n)] X (zVx (fun X' => zIn X X' q ∧ zrv X' = zrv X ∧ ∀ j, j < n → ziv X' q j = latI (isl (ziv X q) n) j)) := by
  generalize hQ : (zVx (fun X' => zIn X X' q ∧ zrv X' = zrv X ∧ ∀ j, j < n → ziv X' q j = latI (isl (ziv X q) n) j)) = Q
  refine z_meth (by decide) (Nat.le_of_ble_eq_true rfl) (by simp [Value.category]) (wpt_X11_sort_0 ?_); unfold wp_X11_sort_0
  have key : ∀ i, i ≤ n → 1 ≤ i → ∀ X1 k, zIn X X1 q → zrv X1 = zrv X → (∀ j, j < i → ziv X1 q j = latI (isl (ziv X q) i) j) → (∀ j, i ≤ j → ziv X1 q j = ziv X q j) → zW E l mX11_sort 0 0 X Q k 2 [some (.ref q), some (.int (Int32.ofNat n)), some (.int (Int32.ofNat i)), none, none] [] X1 := by
    refine zdown (fun h1 X1 k i1 r1 v1 v2 => ?_) (fun i hi ih h1 X1 k i1 r1 v1 v2 => ?_)
    · refine wpt_X11_sort_2 ?_; unfold wp_X11_sort_2
      refine it (by rw [n_le (by omega) (by omega)]; omega) ?_
      rw [← hQ]
      exact ⟨rfl, i1, r1, v1⟩
    · have ih := ih (by omega)
      refine wpt_X11_sort_2 ?_; unfold wp_X11_sort_2
      rw [i1.2.1, n_nn (by omega), v2 i (by omega)]
      refine ie (by rw [n_le (by omega) (by omega)]; omega) ⟨Or.inl (i1.ar ha), ie (by rw [n_le (by omega) (by omega)]; omega) ⟨Or.inl (i1.ar ha), n_in (by omega) (by omega), ?_⟩⟩
      have hWl := isl_len (f := ziv X q) (k := i)
      have hWs := isl_sort (f := ziv X q) (k := i)
      have hWn : isl (ziv X q) (i + 1) = pins vgt (ziv X q i) (isl (ziv X q) i) := rfl
      generalize isl (ziv X q) i = W at *
      generalize hv : ziv X q i = v at *
      have inner : ∀ p (A B : List Int32), A.length = p → A ++ B = W → (∀ x ∈ B, vgt x v) → ∀ V k, zIn X V q → zrv V = zrv X → (∀ j, j < A.length → ziv V q j = latI A j) → (∀ j, j < B.length → ziv V q (A.length + 1 + j) = latI B j) → (∀ j, i + 1 ≤ j → ziv V q j = ziv X q j) → zW E l mX11_sort 0 0 X Q k 20 [some (.ref q), some (.int (Int32.ofNat n)), some (.int (Int32.ofNat i)), some (.int v), some (.int (Int32.ofNat A.length))] [] V := by
        have fin : ∀ (A B : List Int32), A ++ B = W → (∀ x ∈ A, ¬ vgt x v) → (∀ x ∈ B, vgt x v) → ∀ V k, zIn X V q → zrv V = zrv X → (∀ j, j < A.length → ziv V q j = latI A j) → (∀ j, j < B.length → ziv V q (A.length + 1 + j) = latI B j) → (∀ j, i + 1 ≤ j → ziv V q j = ziv X q j) → ∀ V2, V2 = zsi V q (Int32.ofNat A.length).toNatClampNeg v → zW E l mX11_sort 0 0 X Q k 2 [some (.ref q), some (.int (Int32.ofNat n)), some (.int (Int32.ofNat i + 1)), none, none] [] V2 := by
          intro A B hAB hA2 hB2 V k g0 gr g2 g3 g4 V2 eV2
          have hl2 : A.length + B.length = i := by rw [← hWl, ← hAB, List.length_append]
          rw [n_nn (by omega)] at eV2
          rw [n_p1]
          refine ih V2 k (by rw [eV2]; exact g0.si) (by rw [eV2]; exact gr) (fun j hj => ?_) (fun j hj => ?_)
          · rw [hWn, ← hAB, pins_split hA2 hB2, eV2, latI_app]
            by_cases c : j < A.length
            · rw [iv_k (by omega), if_pos c]; exact g2 j c
            · rw [if_neg c]
              by_cases c2 : j = A.length
              · subst c2; rw [iv_s, Nat.sub_self, latI_c0]
              · obtain ⟨j', rfl⟩ : ∃ j', j = A.length + 1 + j' := ⟨j - A.length - 1, by omega⟩
                rw [iv_k (by omega), g3 j' (by omega), show A.length + 1 + j' - A.length = j' + 1 by omega, latI_cs]
          · rw [eV2, iv_k (by omega)]; exact g4 j hj
        intro p
        induction p with
        | zero =>
          intro A B hp hAB hB2 V k g0 gr g2 g3 g4
          have hA0 : A = [] := List.length_eq_zero_iff.mp hp
          refine wpt_X11_sort_20 ?_; unfold wp_X11_sort_20
          rw [g0.2.1]
          refine it (by rw [hp]; decide) ⟨g0.ar ha, n_in (by omega) (by omega), ?_⟩
          exact fin A B hAB (fun x hx => by rw [hA0] at hx; cases hx) hB2 V k g0 gr g2 g3 g4
        | succ p ihp =>
          intro A B hp hAB hB2 V k g0 gr g2 g3 g4
          have hl2 : A.length + B.length = i := by rw [← hWl, ← hAB, List.length_append]
          rcases lcatI A with h0 | ⟨A', a, h0⟩
          · rw [h0] at hp; cases hp
          subst h0
          have hl1 := llenI A' a
          simp only [hl1] at hp hl2 g2 g3 ⊢
          have ea : ziv V q A'.length = a := by rw [g2 _ (by omega), latI_app, if_neg (by omega), Nat.sub_self, latI_c0]
          refine wpt_X11_sort_20 ?_; unfold wp_X11_sort_20
          rw [g0.2.1, n_s1, n_nn (by omega), n_nn (by omega), ea]
          refine ie (by rw [show (0 : Int32) = Int32.ofNat 0 from rfl, n_le (by omega) (by omega)]; omega) ⟨Or.inl (g0.ar ha), n_in (by omega) (by omega), fun hz => ⟨g0.ar ha, n_in (by omega) (by omega), ?_⟩, fun hz => ⟨Or.inl (g0.ar ha), n_in (by omega) (by omega), g0.ar ha, n_in (by omega) (by omega), fun V3 e3 => ?_⟩⟩
          · have hz' : ¬ vgt a v := by unfold vgt; rw [i_nlt]; exact hz
            have := fin (A' ++ [a]) B hAB (fun x hx => ?_) hB2 V k g0 gr (by rw [hl1]; exact g2) (by rw [hl1]; exact g3) g4
            · rw [hl1, n_nn (by omega)] at this; exact this
            · rcases List.mem_append.mp hx with h1 | h1
              · rw [← hAB] at hWs
                have h2 := (List.pairwise_append.mp hWs).1
                exact vgt_tr _ _ _ ((List.pairwise_append.mp h2).2.2 x h1 a (by simp)) hz'
              · rw [List.mem_singleton.mp h1]; exact hz'
          · have hz' : vgt a v := by unfold vgt; rw [← i_nle]; exact hz
            rw [n_m1]
            refine ihp A' (a :: B) (by omega) (by rw [← hAB]; simp) (fun x hx => ?_) V3 k (by rw [e3]; exact g0.si) (by rw [e3]; exact gr) (fun j hj => ?_) (fun j hj => ?_) (fun j hj => ?_)
            · rcases List.mem_cons.mp hx with rfl | hx
              · exact hz'
              · exact hB2 x hx
            · rw [e3, iv_k (by omega), g2 j (by omega), latI_app, if_pos hj]
            · rw [List.length_cons] at hj
              cases j with
              | zero => rw [e3, latI_c0, Nat.add_zero, iv_s]
              | succ j =>
                rw [e3, iv_k (by omega), latI_cs, ← g3 j (by omega)]
                congr 1; omega
            · rw [e3, iv_k (by omega)]; exact g4 j hj
      have := inner W.length W [] rfl (by simp) (fun x hx => nomatch hx) X1 k i1 r1 (fun j hj => v1 j (by omega)) (fun j hj => nomatch hj) (fun j hj => v2 j (by omega))
      rw [hWl] at this
      exact this
  by_cases h0 : n = 0
  · refine wpt_X11_sort_2 ?_; unfold wp_X11_sort_2
    refine it (by rw [h0]; decide) ?_
    rw [← hQ]
    exact ⟨rfl, zIn.rf, rfl, fun j hj => by omega⟩
  · refine key 1 (by omega) (by omega) X _ zIn.rf rfl (fun j hj => ?_) (fun j _ => rfl)
    have : j = 0 := by omega
    subst this; rfl
theorem zkey_lt {a b : Nat} (h : SD S) (hw : SA S) (hA : nA S ≤ 120) (ha : a < nA S) (hab : b < a) (ga : S 1165 (7 * a + 0) = 7) (gb : S 1165 (7 * b + 0) = 7) : glt S b a ↔ vgt (zkey S b) (zkey S a) := by
  obtain ⟨x, x', ex, hx, hx', wx⟩ := zspan_n h hw ha ga
  obtain ⟨y, y', ey, hy, hy', wy⟩ := zspan_n h hw (by omega) gb
  unfold glt vgt zkey
  rw [ex, ey, wx, wy]
  rw [show (120 : Int32) = Int32.ofNat 120 from rfl, show (1024 : Int32) = Int32.ofNat 1024 from rfl, n_mul, n_mul, n_add, n_add, n_mul, n_mul, n_add, n_add, n_lt (by omega) (by omega), n_lt (by omega) (by omega)]
  omega
theorem zkey_rem {a : Nat} (h : SD S) (hw : SA S) (hA : nA S ≤ 120) (ha : a < nA S) (ga : S 1165 (7 * a + 0) = 7) : zkey S a - zkey S a / 1024 * 1024 = zspan S a := by
  obtain ⟨x, x', ex, hx, hx', wx⟩ := zspan_n h hw ha ga
  unfold zkey
  rw [ex, wx]
  rw [show (120 : Int32) = Int32.ofNat 120 from rfl, show (1024 : Int32) = Int32.ofNat 1024 from rfl, n_mul, n_add, n_mul, n_add, n_rem (by omega) (by omega)]
  congr 1
  omega
theorem zat_mem2 {L : List Nat} {k : Nat} (h : k < L.length) : zat L k ∈ L := by
  unfold zat
  rw [List.getElem?_eq_getElem h]
  exact List.getElem_mem h
/-- arrays of no lasting use -/
theorem PO.scr {t : Nat} (h : PO K S m n1 m1 X) (hf : zfr [t] X X') (ht : t = 1036 ∨ t = 1037) : PO K S m n1 m1 X' := by
  have no : ∀ u, u ≠ t → u ∉ [t] := fun u h => by simp [h]
  exact h.gen hf (fun u hu => no u (by unfold PT at hu; simp at hu; omega)) (fun u hu => by rw [List.mem_singleton.mp hu]; rcases ht with rfl | rfl <;> decide) (h.of.fr hf (fun u hu => no u (by unfold OT at hu; simp at hu; omega))) (fun _ _ _ => rfl) h.si
theorem c_latest (h : PO K S m n1 m1 X) (hw : SA S) (kind : Int32) : zMet E l mX11_latestWaits 4 142 [.ref (zp 384 0), .int kind] X (zRx (fun q X' => PO K S m n1 m1 X' ∧ zar X' q 0 ∧ zln X' q = zmany (zgot S kind (nA S)) ∧ ∀ j, j < zmany (zgot S kind (nA S)) → ziv X' q j = latI (zwts S (zgot S kind (nA S)) ((zgot S kind (nA S)).length - zmany (zgot S kind (nA S))) (zmany (zgot S kind (nA S)))) j)) := by
  have hA := h.of.nA2
  have hD := h.si.2.2.1
  generalize hQ : (zRx (fun q X' => PO K S m n1 m1 X' ∧ zar X' q 0 ∧ zln X' q = zmany (zgot S kind (nA S)) ∧ ∀ j, j < zmany (zgot S kind (nA S)) → ziv X' q j = latI (zwts S (zgot S kind (nA S)) ((zgot S kind (nA S)).length - zmany (zgot S kind (nA S))) (zmany (zgot S kind (nA S)))) j)) = Q
  have ar : ∀ {G i}, i < zcn G 1037 → zar G (zp 1037 i) 0 := fun hi => zar_zp (by omega) (by omega) (by omega) hi
  have r7 : ∀ {G}, PO K S m n1 m1 G → zrv G (zp 384 0) 8 = zp 224 0 := fun h => h.o.2.2.2.2.2.2.1
  have r3 : ∀ {G}, PO K S m n1 m1 G → zrv G (zp 224 0) 3 = zp 4 0 := fun h => h.of.r3
  have n1f : ∀ t, t ≠ 1037 → t ∉ [1037] := fun t h => by simp [h]
  -- the second row
  have second : ∀ c X1 k, PO K S m n1 m1 X1 → c < zcn X1 1037 → zln X1 (zp 1037 c) = zmany (zgot S kind (nA S)) → (∀ j, j < zmany (zgot S kind (nA S)) → ziv X1 (zp 1037 c) j = zkey S (zat (zgot S kind (nA S)) ((zgot S kind (nA S)).length - zmany (zgot S kind (nA S)) + j))) → zW E l mX11_latestWaits 4 142 X Q k 123 [none, none, none, none, some (.ref (zp 1037 c)), some (.int 0)] [] X1 := by
    intro c X1 k h1 hc hl1 hk
    have hlen := zgot_len (S := S) (kind := kind) (n := nA S)
    have hgm : ∀ x ∈ zgot S kind (nA S), x < nA S ∧ S 1165 (7 * x + 0) = 7 := fun x hx => ⟨(zgot_mem.mp hx).1, (zgot_mem.mp hx).2.2⟩
    generalize zgot S kind (nA S) = L at *
    have hm : zmany L ≤ L.length ∧ zmany L ≤ 20 := by unfold zmany; omega
    generalize zmany L = mm at *
    have key : ∀ i, i ≤ mm → ∀ X2 k, zfr [1037] X1 X2 → zcn X2 = zcn X1 → zln X2 = zln X1 → (∀ j, j < i → ziv X2 (zp 1037 c) j = zspan S (zat L (L.length - mm + j))) → (∀ j, i ≤ j → j < mm → ziv X2 (zp 1037 c) j = zkey S (zat L (L.length - mm + j))) → zW E l mX11_latestWaits 4 142 X Q k 123 [none, none, none, none, some (.ref (zp 1037 c)), some (.int (Int32.ofNat i))] [] X2 := by
      refine zdown (fun X2 k f2 c2 l2 v2 k2 => ?_) (fun i hi ih X2 k f2 c2 l2 v2 k2 => ?_)
      · have h2 : PO K S m n1 m1 X2 := h1.scr f2 (by omega)
        have a2 : zar X2 (zp 1037 c) 0 := ar (by rw [c2]; exact hc)
        refine wpt_X11_latestWaits_123 ?_; unfold wp_X11_latestWaits_123
        rw [l2, hl1]
        refine ⟨Or.inl a2, it (by rw [n_le (by omega) (by omega)]; omega) ⟨Or.inl a2, cVx (c_sort (n := mm) a2 (by rw [l2, hl1]; exact Nat.le_refl _) (by rw [l2, hl1]; omega)) (by decide) (Nat.zero_le _) (fun G1 g1 => ?_)⟩⟩
        obtain ⟨i3, r3', v3⟩ := g1
        have f3 : zfr [1037] X2 G1 := zfr_of (t := 1037) (i := c) (by omega) (by simp) i3.1 i3.2.1 i3.2.2
        rw [← hQ]
        refine ⟨_, rfl, h2.scr f3 (by omega), i3.ar a2, by rw [i3.2.1, l2, hl1], fun j hj => ?_⟩
        rw [v3 j hj, isl_wts v2]
      · have a2 : zar X2 (zp 1037 c) 0 := ar (by rw [c2]; exact hc)
        have hb := hgm _ (zat_mem2 (L := L) (k := L.length - mm + i) (by omega))
        refine wpt_X11_latestWaits_123 ?_; unfold wp_X11_latestWaits_123
        rw [l2, hl1, n_nn (by omega), k2 i (by omega) hi, zkey_rem hD hw (by omega) hb.1 hb.2, n_p1]
        refine ⟨Or.inl a2, ie (by rw [n_le (by omega) (by omega)]; omega) ⟨Or.inl a2, n_in (by omega) (by omega), a2, n_in (by omega) (by omega), fun G3 e3 => ?_⟩⟩
        refine ih G3 _ (by rw [e3]; exact f2.trans (zfr.si (by rw [zp_mod (by omega)]; simp))) (by rw [e3]; exact c2) (by rw [e3]; exact l2) (fun j hj => ?_) (fun j hj1 hj2 => ?_)
        · rw [e3, ziv_si]
          by_cases e : j = i
          · rw [if_pos ⟨rfl, e⟩, e]
          · rw [if_neg (fun z => e z.2)]; exact v2 j (by omega)
        · rw [e3, iv_k (by omega)]; exact k2 j (by omega) hj2
    exact key 0 (by omega) X1 k zfr.rf rfl rfl (fun j hj => by omega) (fun j _ hj => hk j hj)
  -- the scan
  have scan : ∀ c i, i ≤ nA S → ∀ X1 k, PO K S m n1 m1 X1 → zcn X1 1037 = c + 1 → zln X1 (zp 1037 c) = nA S → isl (ziv X1 (zp 1037 c)) (zgot S kind i).length = (zgot S kind i).map (zkey S) → 21 ≤ k → zW E l mX11_latestWaits 4 142 X Q k 18 [some (.ref (zp 384 0)), some (.int kind), some (.ref (zp 1037 c)), some (.int (Int32.ofNat (zgot S kind i).length)), some (.int (Int32.ofNat i)), none] [] X1 := by
    intro c
    refine zdown (fun X1 k h1 hc hl1 hs hk => ?_) (fun i hi ih X1 k h1 hc hl1 hs hk => ?_)
    · have a1 : zar X1 (zp 1037 c) 0 := ar (by rw [hc]; omega)
      have hlen := zgot_len (S := S) (kind := kind) (n := nA S)
      have hm : zmany (zgot S kind (nA S)) ≤ (zgot S kind (nA S)).length ∧ zmany (zgot S kind (nA S)) ≤ 20 := by unfold zmany; omega
      have hm2 : (zgot S kind (nA S)).length - ((zgot S kind (nA S)).length - zmany (zgot S kind (nA S))) = zmany (zgot S kind (nA S)) := by omega
      refine wpt_X11_latestWaits_18 ?_; unfold wp_X11_latestWaits_18
      rw [hl1]
      refine ⟨Or.inl a1, it (by rw [n_le (by omega) (by omega)]; omega) ?_⟩
      refine wpt_X11_latestWaits_100 ?_; unfold wp_X11_latestWaits_100
      refine cVx (c_sort (n := (zgot S kind (nA S)).length) a1 (by rw [hl1]; exact hlen) (by rw [hl1]; omega)) (by decide) (Nat.zero_le _) (fun G1 g1 => ?_)
      obtain ⟨i3, r3', v3⟩ := g1
      have f3 : zfr [1037] X1 G1 := zfr_of (t := 1037) (i := c) (by omega) (by simp) i3.1 i3.2.1 i3.2.2
      refine cmax (by decide) ?_
      have em : (if (0 : Int32) < Int32.ofNat (zgot S kind (nA S)).length - 20 then Int32.ofNat (zgot S kind (nA S)).length - 20 else 0) = Int32.ofNat ((zgot S kind (nA S)).length - zmany (zgot S kind (nA S))) := by
        by_cases c : 20 < (zgot S kind (nA S)).length
        · rw [show (20 : Int32) = Int32.ofNat 20 from rfl, n_sub (by omega), show (0 : Int32) = Int32.ofNat 0 from rfl, if_pos ((n_lt (by omega) (by omega)).mpr (by omega))]
          unfold zmany
          congr 1; omega
        · have e21 : ¬ (0 : Int32) < Int32.ofNat (zgot S kind (nA S)).length - 20 := by
            have : ∀ x, x < 21 → ¬ (0 : Int32) < Int32.ofNat x - 20 := by decide
            exact this _ (by omega)
          rw [if_neg e21]
          exact congrArg Int32.ofNat (show 0 = (zgot S kind (nA S)).length - zmany (zgot S kind (nA S)) from by unfold zmany; omega)
      rw [em]
      have aG : zar G1 (zp 1037 c) 0 := i3.ar a1
      have c1 : zcn G1 1037 = c + 1 := by rw [i3.1, hc]
      have lG : zln G1 (zp 1037 c) = nA S := by rw [i3.2.1, hl1]
      refine cRx (c_copyR2 (t := 1037) aG (by rw [c1]; exact zp_ni (by omega) (by omega)) (by omega) (by omega) (by omega) (by rw [lG]; exact hlen) (by rw [lG]; omega)) (by decide) (by omega) (fun y G7 h7 => ?_)
      obtain ⟨ey, y2, y3, y4, y5, y6⟩ := h7
      rw [hm2] at y3 y4
      rw [c1] at ey y2
      subst ey
      refine second (c + 1) G7 _ ((h1.scr f3 (by omega)).scr y5 (by omega)) (by rw [y2]; omega) y3 (fun j hj => ?_)
      rw [y4 j hj, v3 _ (by omega), hs, latI_map (by omega)]
    · have a1 : zar X1 (zp 1037 c) 0 := ar (by rw [hc]; omega)
      have hlen := zgot_len (S := S) (kind := kind) (n := i)
      have hstep : zgot S kind (i + 1) = if S 1154 i = kind ∧ S 1165 (7 * i + 0) = 7 then pins (glt S) i (zgot S kind i) else zgot S kind i := rfl
      have hl := h1.of.aL
      refine wpt_X11_latestWaits_18 ?_; unfold wp_X11_latestWaits_18
      rw [hl1, r7 h1, r3 h1, n_p1]
      refine ⟨Or.inl a1, ie (by rw [n_le (by omega) (by omega)]; omega) ⟨Or.inl a1, ie (by rw [n_le (by omega) (by omega)]; omega) ⟨h1.o.1, h1.of.oo, zobL hl (by omega), cget hl (by omega) (by omega) hi (by decide) ⟨h1.of.ob hi, h1.of.ob hi, ?_⟩⟩⟩⟩
      rw [show ziv X1 (zp 32 i) 2 = S 1154 i from h1.of.a2 hi, show ziv X1 (zp 32 i) 7 = S 1165 (7 * i + 0) from h1.of.a7 hi, show ziv X1 (zp 32 i) 12 = S 1165 (7 * i + 3) from h1.of.a12 hi]
      refine ⟨fun e => ?_, fun e => ⟨h1.of.ob hi, fun e2 => ?_, fun e2 => ⟨h1.of.ob hi, h1.of.ob hi, cI (c_waited h1.of.so (by decide) hi) (by decide) ⟨a1, by rw [hl1]; exact n_in (by omega) (by omega), fun G13 e13 => ?_⟩⟩⟩⟩
      · rw [hstep, if_neg (fun z => e z.1)] at ih
        exact ih X1 _ h1 hc hl1 hs hk
      · rw [hstep, if_neg (fun z => e2 z.2)] at ih
        exact ih X1 _ h1 hc hl1 hs hk
      · have e2 := Classical.not_not.mp e2
        rw [hstep, if_pos ⟨Classical.not_not.mp e, e2⟩, pins_len] at ih
        rw [n_nn (by omega)] at e13
        rw [n_p1]
        refine ih G13 _ (h1.scr (t := 1037) (by rw [e13]; exact zfr.si (by rw [zp_mod (by omega)]; simp)) (by omega)) (by rw [e13]; exact hc) (by rw [e13]; exact hl1) ?_ hk
        rw [pins_map (g2 := vgt) (f := zkey S) (fun b hb => by
          obtain ⟨b1, b2, b3⟩ := zgot_mem.mp hb
          exact zkey_lt hD hw hA.2 (by omega) b1 e2 b3), ← hs]
        show pins vgt (ziv G13 (zp 1037 c) (zgot S kind i).length) (isl (ziv G13 (zp 1037 c)) (zgot S kind i).length) = _
        rw [isl_cg (f := ziv G13 (zp 1037 c)) (f' := ziv X1 (zp 1037 c)) (fun j hj => by rw [e13, iv_k (by omega)]), e13, iv_s]
        rfl
  have hl := h.of.aL
  refine z_meth (by decide) (Nat.le_of_ble_eq_true rfl) (by simp [Value.category]) (wpt_X11_latestWaits_0 ?_); unfold wp_X11_latestWaits_0
  rw [r7 h, r3 h]
  refine ⟨h.o.1, h.of.oo, zobL hl (by omega), csize hl (by omega) (by decide) ⟨n_neg (by omega), ?_⟩⟩
  rw [n_nn (by omega)]
  refine ⟨by omega, by omega, 1037, by decide, by decide, by decide, fun q5 e5 G6 e6 k7 e7 => ?_⟩
  rw [e5]
  refine scan (zcn X 1037) 0 (by omega) G6 _ (h.scr (t := 1037) (by rw [e6]; exact zfr.nw (by omega) (by simp)) (by omega)) (by rw [e6, zcn_nw, if_pos rfl]) (by rw [e6, zln_nw, if_pos rfl]) rfl (by omega)
theorem c_isKind (x : Int32) : zMet E l mX11_isKind 0 0 [.int x] X (zI (zb (inn x 0 3)) X) := by
  have e3 : (3 : Int32).toInt = 3 := by decide
  have e4 : (4 : Int32).toInt = 4 := by decide
  refine z_meth (by decide) (Nat.le_of_ble_eq_true rfl) (by simp [Value.category]) (wpt_X11_isKind_0 ?_); unfold wp_X11_isKind_0
  refine ⟨fun c => ⟨by rw [zbz (fun z => z.1 c)], rfl⟩, fun c => ⟨fun c2 => ⟨?_, rfl⟩, fun c2 => ⟨?_, rfl⟩⟩⟩
  · rw [zbz (fun z => by
      have h := z.2
      rw [i_tl, e3] at h
      rw [i_ti, e4] at c2
      omega)]
  · rw [zb_t ⟨c, by
      rw [i_tl, e3]
      rw [i_ti, e4] at c2
      omega⟩]
theorem p_waits (htr : l.stackTraces = false) (h : PO K S m n1 m1 X) (hw : SA S) (kind most : Int32) : zMet E l mX11_waits 7 150 [.ref (zp 384 0), .int kind, .int most] X (cO cy (fun _ => xIA) (fWaits S kind most) (fun S' G' => PO K S' m n1 m1 G')) := by
  have hA := h.of.nA2
  generalize hQ : cO cy (fun _ => xIA) (fWaits S kind most) (fun S' G' => PO K S' m n1 m1 G') = Q
  refine z_meth (by decide) (Nat.le_of_ble_eq_true rfl) (by simp [Value.category]) (wpt_X11_waits_0 ?_); unfold wp_X11_waits_0
  refine cI (c_isKind kind) (by decide) ?_
  by_cases hk : inn kind 0 3
  · rw [zb_t hk]
    refine cV (c_demand1 htr) (by decide) ⟨h.o.1, cRx (c_latest h hw kind) (by decide) (by omega) (fun q G7 h7 => ?_)⟩
    obtain ⟨h7, a7, l7, v7⟩ := h7
    have hlen := zgot_len (S := S) (kind := kind) (n := nA S)
    have ef : fWaits S kind most = fCalls3 (zgot S kind (nA S) = []) (0, -1, S) (0, zwait S (zgot S kind (nA S)) most, S) := by unfold fWaits; rw [f3f (nn hk)]
    rw [ef] at hQ
    have hm : zmany (zgot S kind (nA S)) ≤ 20 := by unfold zmany; omega
    have hm0 : zmany (zgot S kind (nA S)) = 0 ↔ zgot S kind (nA S) = [] := by
      rw [← List.length_eq_zero_iff]; unfold zmany; omega
    -- the place lies in the row
    have e36 : ∀ i, i < zmany (zgot S kind (nA S)) → i = (if most = 0 then zmany (zgot S kind (nA S)) / 10 else zmany (zgot S kind (nA S)) - 1 - zmany (zgot S kind (nA S)) / 10) → ∀ k, zW E l mX11_waits 7 150 X Q k 36 [none, none, none, some (.ref q), none, none] [.int (Int32.ofNat i)] G7 := by
      intro i hi ei k
      refine wpt_X11_waits_36 ?_; unfold wp_X11_waits_36
      rw [l7, n_nn (by omega), v7 i hi]
      refine ie (n_neg (by omega)) ⟨Or.inl a7, ie (by rw [n_le (by omega) (by omega)]; omega) ⟨Or.inl a7, n_in hi (by omega), ?_⟩⟩
      rw [← hQ, f3f (fun z => by rw [hm0.mpr z] at hi; omega)]
      have ez : zwait S (zgot S kind (nA S)) most = latI (zwts S (zgot S kind (nA S)) ((zgot S kind (nA S)).length - zmany (zgot S kind (nA S))) (zmany (zgot S kind (nA S)))) i := by
        unfold zwait
        rw [← ei]
      exact cO_ok (by rw [ez]; rfl) h7
    -- there is no row
    have e36n : zmany (zgot S kind (nA S)) = 0 → ∀ s0 : Int32, (s0 < 0 ∨ s0 = 0) → ∀ k, zW E l mX11_waits 7 150 X Q k 36 [none, none, none, some (.ref q), none, none] [.int s0] G7 := by
      intro h0 s0 hs k
      have fin : Q (.inl (some (.int (-1)))) G7 := by
        rw [← hQ, f3t (hm0.mp h0)]
        exact cO_ok rfl h7
      refine wpt_X11_waits_36 ?_; unfold wp_X11_waits_36
      rw [l7, h0]
      rcases hs with c | rfl
      · exact it c fin
      · exact ie (by decide) ⟨Or.inl a7, it (by decide) fin⟩
    rw [l7]
    refine ⟨Or.inl a7, fun c => ?_, fun c => ⟨Or.inl a7, ?_⟩⟩
    · by_cases h0 : zmany (zgot S kind (nA S)) = 0
      · rw [h0]; exact e36n h0 _ (Or.inr (by decide)) _
      · rw [show (10 : Int32) = Int32.ofNat 10 from rfl, n_div (by omega) (by omega)]
        exact e36 _ (by omega) (by rw [if_pos c]) _
    · by_cases h0 : zmany (zgot S kind (nA S)) = 0
      · rw [h0]; exact e36n h0 _ (Or.inl (by decide)) _
      · rw [show (10 : Int32) = Int32.ofNat 10 from rfl, n_div (by omega) (by omega), show (1 : Int32) = Int32.ofNat 1 from rfl, n_sub (by omega), n_sub (by omega)]
        exact e36 _ (by omega) (by rw [if_neg c]) _
  · rw [zbz hk]
    have ef : fWaits S kind most = (1, 0, S) := by unfold fWaits; rw [f3t hk]
    rw [ef] at hQ
    rw [← hQ]
    exact xcV_th (c_demand0 htr) (by decide) (by omega) (cO_ex (by decide) rfl h)
end ZDa
