/-! an office: a booklet is printed -/
theorem zel_zp {G : ZG} {t i c : Nat} (ht : t < 448) (hc : t / 32 = c) (hi : i < zcn G t) (h14 : c < 14) (hcs : Cond.castable (zC c) "java/lang/Object" ∈ zcast) : zel G (zp t i) := ⟨c, zob_zp ht hc hi, h14, hcs⟩
section ZCe
variable {w m : Nat} {S : ZS9} {r : Int32} {X : ZG}
/-- the store has changed, the numbers have not -/
theorem SO.fr {X' : ZG} {T : List Nat} (h : SO w S r m X) (hw : w < 2) (hf : zfr T X X') (t1 : 224 + w ∉ T) (t2 : 32 + w ∉ T) (t3 : 352 ∉ T) (t4 : 4 + 2 * w ∉ T) (t5 : 3076 + 2 * w ∉ T) (t6 : 4095 ∉ T) {m' : Nat} (hB : zAL X' (5 + 2 * w) m' (zp (64 + w)) ∧ zcn X' (64 + w) = m' ∧ m' ≤ 150) (hm : m ≤ m') (hv : ∀ b, b < nB S → ∀ k, k < 4 → ziv X' (zp (64 + w) b) k = ziv X (zp (64 + w) b) k) : SO w S r m' X' := by
  obtain ⟨⟨o1, o2, o3, o4, o5, o6, o7⟩, ⟨a1, a2, a3⟩, ⟨b1, b2, b3, b4, b5⟩⟩ := h
  refine ⟨⟨hf.ob o1, ?_, ?_, ?_, ?_, ?_, fun k h1 h2 => ?_⟩, ⟨?_, ?_, fun a ha => ?_⟩, ⟨hB.1, hB.2.1, by omega, hB.2.2, fun b hb k hk => ?_⟩⟩
  · rw [hf.rv (by omega) t1]; exact o2
  · rw [hf.rv (by omega) t1]; exact o3
  · rw [hf.rv (by omega) t1]; exact o4
  · rw [hf.rv (by omega) t1]; exact o5
  · rw [hf.rv (by omega) t1]; exact o6
  · rw [hf.iv (by omega) t1]; exact o7 k h1 h2
  · exact a1.fr hf (by omega) t4 (by rw [show 3072 + (4 + 2 * w) = 3076 + 2 * w by omega]; exact t5) t6
  · rw [hf.2.1 _ t2]; exact a2
  · exact AOK.st (a3 a ha) (hf.1 _) ⟨hf.rv (by omega) t2, hf.iv (by omega) t2⟩ (fun v _ => hf.iv (by omega) t3)
  · rw [hv b hb k hk]; exact b5 b hb k hk
theorem RJ.rf (h : RJ S) : RJ S := h
/-- the numbers when one row more is in use, whatever lies in it -/
def znb (S : ZS9) (v : Nat → Int32) : ZS9 := zup (zup (zup (zup (zup S 416 71 (S 416 71 + 1)) 1167 (nB S) (v 0)) 1168 (nB S) (v 1)) 1169 (nB S) (v 2)) 1170 (nB S) (v 3)
theorem znb_o {S : ZS9} {v : Nat → Int32} {t k : Nat} (h : ¬ (t = 416 ∧ k = 71)) (h2 : t < 1167 ∨ 1170 < t ∨ k ≠ nB S) : znb S v t k = S t k := by
  unfold znb
  rw [zup_ne (by omega), zup_ne (by omega), zup_ne (by omega), zup_ne (by omega), zup_ne (by omega)]
theorem znb_c {S : ZS9} {v : Nat → Int32} : znb S v 416 71 = S 416 71 + 1 := by
  unfold znb
  rw [zup_ne (by omega), zup_ne (by omega), zup_ne (by omega), zup_ne (by omega), zup_s]
theorem znb_v {S : ZS9} {v : Nat → Int32} {k : Nat} (hk : k < 4) : znb S v (1167 + k) (nB S) = v k := by
  unfold znb
  match k, hk with
  | 0, _ => rw [zup_ne (by omega), zup_ne (by omega), zup_ne (by omega)]; exact zup_s _ _ _ _
  | 1, _ => rw [zup_ne (by omega), zup_ne (by omega)]; exact zup_s _ _ _ _
  | 2, _ => rw [zup_ne (by omega)]; exact zup_s _ _ _ _
  | 3, _ => exact zup_s _ _ _ _
theorem znb_dk {S : ZS9} {v : Nat → Int32} : zdk S (znb S v) := fun t k hc => by
  unfold zdc at hc
  exact znb_o (by omega) (by omega)
theorem znb_nB {S : ZS9} {v : Nat → Int32} (hR : RI S) : nB (znb S v) = nB S + 1 := by
  have h1 := hR.2.2.1
  have e : nB (znb S v) = (S 416 71 + 1).toNatClampNeg := by
    show (znb S v 416 71).toNatClampNeg = _
    rw [znb_c]
  rw [e, h1.1, n_p1, n_nn (by omega)]
theorem OF.newB (h : OF w S r m X) (hm : nB S < m) : OF w (znb S (fun k => ziv X (zp (64 + w) (nB S)) k)) r m (zsi X (zp (224 + w) 0) 5 (S 416 71 + 1)) := by
  have hw := h.w2
  have hnb := znb_nB (v := fun k => ziv X (zp (64 + w) (nB S)) k) h.ri
  have hm2 := h.mB.2
  have hR : RI (znb S (fun k => ziv X (zp (64 + w) (nB S)) k)) := by
    refine h.ri.k0 znb_dk.k0 ?_
    rw [hnb, znb_c, h.ri.2.2.1.1, n_p1]
    exact ⟨rfl, by omega⟩
  refine h.step znb_dk hR (h.rj.dk znb_dk (fun a => Or.inl (znb_o (by omega) (by omega))) ?_) ?_ (fsi (by omega) TWo)
  · rw [znb_o (by omega) (by omega)]; exact h.rj.2.2.2
  · obtain ⟨⟨o1, o2, o3, o4, o5, o6, o7⟩, ⟨a1, a2, a3⟩, ⟨b1, b2, b3, b4, b5⟩⟩ := h.so
    have hA : nA (znb S (fun k => ziv X (zp (64 + w) (nB S)) k)) = nA S := nA_dk znb_dk
    have hf : zfr [224 + w] X (zsi X (zp (224 + w) 0) 5 (S 416 71 + 1)) := zfr.si (by rw [zp_mod (by omega)]; simp)
    have ni : ∀ t, t ≠ 224 + w → t ∉ [224 + w] := fun t h => by simp [h]
    refine ⟨⟨o1, o2, o3, o4, o5, o6, fun k h1 h2 => ?_⟩, ⟨?_, ?_, fun a ha => ?_⟩, ⟨?_, b2, ?_, b4, fun b hb k hk => ?_⟩⟩
    · rw [ziv_si]
      by_cases c : k = 5
      · rw [if_pos ⟨rfl, c⟩, c]
        show S 416 71 + 1 = znb S (fun k => ziv X (zp (64 + w) (nB S)) k) 416 71
        rw [znb_c]
      · rw [if_neg (fun z => c z.2), o7 k h1 h2]
        unfold oFld
        rw [if_neg c, if_neg c, znb_o (by omega) (by omega), znb_o (by omega) (by omega), znb_o (by omega) (by omega), znb_o (by omega) (by omega), znb_o (by omega) (by omega), znb_o (by omega) (by omega), znb_o (by omega) (by omega)]
    · rw [hA]; exact a1.fr hf (by omega) (ni _ (by omega)) (ni _ (by omega)) (ni _ (by omega))
    · rw [hA]; exact a2
    · rw [hA] at ha
      exact (AOK.st (X' := zsi X (zp (224 + w) 0) 5 (S 416 71 + 1)) (a3 a ha) (Nat.le_refl _) ⟨rfl, hf.iv (t := 32 + w) (by omega) (ni _ (by omega))⟩ (fun v' _ => hf.iv (t := 352) (by omega) (ni _ (by omega)))).cg (fun t k ht => znb_o (by omega) (by omega))
    · exact b1.fr hf (by omega) (ni _ (by omega)) (ni _ (by omega)) (ni _ (by omega))
    · rw [hnb]; omega
    · rw [hnb] at hb
      rw [iv_n (zp_ne (by omega) (by omega) (by omega))]
      by_cases c : b = nB S
      · rw [c, znb_v hk]
      · rw [znb_o (by omega) (by omega)]; exact b5 b (by omega) k hk
variable {E : ZE} {l : Launch}
theorem c_newBooklet (h : OF w S r m X) (hb : nB S < 150) : zMet E l mX6_newBooklet 8 (320 * (max m (nB S + 1) - m)) [.ref (zp (224 + w) 0)] X (zRx (fun q X' => q = zp (64 + w) (nB S) ∧ (∃ v, OF w (znb S v) r (max m (nB S + 1)) X') ∧ zfr (TW w) X X')) := by
  have hw := h.w2
  have hB := h.ri.2.2.1
  have e29 : ∀ m1 X1, m1 = max m (nB S + 1) → OF w S r m1 X1 → zfr (TW w) X X1 → ∀ k, zW E l mX6_newBooklet 8 (320 * (max m (nB S + 1) - m)) X (zRx (fun q X' => q = zp (64 + w) (nB S) ∧ (∃ v, OF w (znb S v) r (max m (nB S + 1)) X') ∧ zfr (TW w) X X')) k 29 [some (.ref (zp (224 + w) 0)), none] [] X1 := by
    intro m1 X1 e1 h1 f1 k
    have hm1 := h1.mB
    have hl := h1.so.2.2.1
    refine wpt_X6_newBooklet_29 ?_; unfold wp_X6_newBooklet_29
    rw [h1.r4, h1.f5, hB.1]
    refine ⟨h1.oo, h1.oo, h1.oo, zobL hl (by omega), csize hl (by omega) (by decide) (cmin (by decide) ⟨zobL hl (by omega), ?_⟩)⟩
    have em : (if Int32.ofNat m1 - 1 < Int32.ofNat (nB S) then Int32.ofNat m1 - 1 else Int32.ofNat (nB S)) = Int32.ofNat (nB S) := by
      obtain ⟨m2, rfl⟩ : ∃ m2, m1 = m2 + 1 := ⟨m1 - 1, by omega⟩
      rw [n_s1, if_neg (by rw [n_lt (by omega) (by omega)]; omega)]
    rw [em]
    refine cget hl (by omega) (by omega) (by omega) (by decide) ⟨h1.so.bo hw (by omega), h1.oo, h1.oo, fun G2 e2 => ⟨_, rfl, rfl, ⟨fun k => ziv X1 (zp (64 + w) (nB S)) k, ?_⟩, ?_⟩⟩
    · rw [e2, ← e1, h1.f5]
      exact h1.newB (by omega)
    · rw [e2]; exact frO hw f1
  have hm0 := h.mB
  have hl := h.so.2.2.1
  have hl2 := h.so.2.2.2.1
  refine z_meth (by decide) (Nat.le_of_ble_eq_true rfl) (by simp [Value.category]) (wpt_X6_newBooklet_0 ?_); unfold wp_X6_newBooklet_0
  rw [h.r4, h.f5, hB.1]
  refine ⟨h.oo, h.oo, zobL hl (by omega), csize hl (by omega) (by decide) ⟨fun c => ?_, fun c => ⟨h.oo, ?_⟩⟩⟩
  · rw [n_lt (by omega) (by omega)] at c
    exact e29 m X (by omega) h zfr.rf _
  · rw [n_lt (by omega) (by omega)] at c
    have em : m = nB S := by omega
    have emx : max m (nB S + 1) = m + 1 := by omega
    refine ⟨by omega, 64 + w, by omega, by omega, by omega, fun q5 e5 G6 e6 k7 e7 => ?_⟩
    rw [hl2] at e5
    have f6 : zfr [64 + w] X G6 := by rw [e6]; exact zfr.nw (by omega) (by simp)
    have al6 : zal G6 q5 := by rw [e6, e5]; exact (zal_nw (by omega) _).mpr (Or.inr (by rw [hl2]))
    have ci : zMet E l mX1_init 7 0 [.ref q5] G6 (zVx (fun X' => zfr [64 + w] G6 X' ∧ zcn X' = zcn G6 ∧ ∀ b k, b < m → ziv X' (zp (64 + w) b) k = ziv G6 (zp (64 + w) b) k)) := by
      have o6 : ∀ G : ZG, zcn G = zcn G6 → zob G q5 2 := fun G e => ⟨by unfold zal; rw [e]; exact al6, by rw [e5, zp_mod (by omega)]; omega, by rw [e5, zp_mod (by omega)]; omega⟩
      have ms : q5 % 4096 ∈ [64 + w] := by rw [e5, zp_mod (by omega)]; simp
      refine z_meth (by decide) (Nat.le_of_ble_eq_true rfl) (by simp [Value.category]) (wpt_X1_init_0 ?_); unfold wp_X1_init_0
      refine ⟨al6, by decide, o6 _ rfl, fun G1 e1 => ⟨o6 _ (by rw [e1]; rfl), fun G2 e2 => ⟨o6 _ (by rw [e2, e1]; rfl), fun G3 e3 => ⟨o6 _ (by rw [e3, e2, e1]; rfl), fun G4 e4 => ⟨rfl, ?_, ?_, fun b k hb => ?_⟩⟩⟩⟩⟩
      · rw [e4, e3, e2, e1]; exact (((zfr.si ms).trans (zfr.si ms)).trans (zfr.si ms)).trans (zfr.si ms)
      · rw [e4, e3, e2, e1]; rfl
      · have hne : zp (64 + w) b ≠ q5 := by rw [e5]; exact zp_ni (by omega) (by omega)
        rw [e4, e3, e2, e1, iv_n hne, iv_n hne, iv_n hne, iv_n hne]
    refine ⟨al6, cVx ci (by decide) (Nat.zero_le _) (fun G8 h8 => ?_)⟩
    obtain ⟨f8, n8, v8⟩ := h8
    have g8 : zfr [64 + w] X G8 := f6.trans f8
    have ni : ∀ t, t ≠ 64 + w → t ∉ [64 + w] := fun t h => by simp [h]
    have l8 : zAL G8 (5 + 2 * w) m (zp (64 + w)) := hl.fr g8 (by omega) (ni _ (by omega)) (ni _ (by omega)) (ni _ (by omega))
    have n64 : zcn G8 (64 + w) = m + 1 := by rw [n8, e6, zcn_nw, if_pos rfl, hl2]
    have hcs : Cond.castable (zC 2) "java/lang/Object" ∈ zcast := by decide +kernel
    have hel : ∀ j, j < m + 1 → zel G8 (zp (64 + w) j) := fun j hj => zel_zp (c := 2) (by omega) (by omega) (by omega) (by decide) hcs
    rw [h.r4, e5]
    refine ⟨zobL l8 (by omega), ?_⟩
    refine cIx (c_add (b := 2 * m + 12) (d := 7) l8 (by omega) (by omega) (by omega) (hel m (by omega)) (fun j hj => hel j (by omega)) (Nat.le_refl _) (Nat.le_refl _)) (by decide) (by omega) (fun x G9 h9 => ?_)
    obtain ⟨-, l9, f9⟩ := h9
    have n9 : zcn G9 (64 + w) = m + 1 := by rw [f9.2.1 _ (by simp; omega), n64]
    have l9' : zAL G9 (5 + 2 * w) (m + 1) (zp (64 + w)) := by
      have : (fun j => if j = m then zp (64 + w) m else zp (64 + w) j) = zp (64 + w) := by
        funext j
        split
        · next e => rw [e]
        · rfl
      rw [this] at l9
      exact l9
    have fr : zfr [64 + w, 5 + 2 * w, 3077 + 2 * w] X G9 := (g8.mono (by simp)).trans (f9.mono (by intro t ht; simp at ht ⊢; omega))
    have no : ∀ t, t ≠ 64 + w → t ≠ 5 + 2 * w → t ≠ 3077 + 2 * w → t ∉ [64 + w, 5 + 2 * w, 3077 + 2 * w] := fun t h1 h2 h3 => by simp [h1, h2, h3]
    have frT : zfr (TW w) X G9 := fr.mono (by intro t ht; unfold TW; simp at ht ⊢; omega)
    refine e29 (m + 1) G9 emx.symm ?_ frT _
    refine h.step zdk.rf h.ri h.rj ?_ frT
    refine h.so.fr hw fr (no _ (by omega) (by omega) (by omega)) (no _ (by omega) (by omega) (by omega)) (no _ (by omega) (by omega) (by omega)) (no _ (by omega) (by omega) (by omega)) (no _ (by omega) (by omega) (by omega)) (no _ (by omega) (by omega) (by omega)) ⟨l9', n9, by omega⟩ (by omega) (fun b hb k hk => ?_)
    rw [f9.iv (by omega) (by simp; omega), v8 b k (by omega), e6, ziv_nw, if_neg]
    rw [hl2]
    exact zp_ni (by omega) (by omega)
end ZCe
