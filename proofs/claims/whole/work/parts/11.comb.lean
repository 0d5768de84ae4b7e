/-! what the printed predicates are made of -/
/-- a call that answers an int, a reference, nothing -/
def xcI (E : ZE) (l : Launch) (Y : ZM) (d : Nat) (as : List Value) (G : ZG) (k : Nat) (KX : String → ZG → Prop) (K : Int32 → ZG → Nat → Prop) : Prop := ∃ (d1 b1 : Nat) (Qz : ZQ), zMet E l Y d1 b1 as G Qz ∧ d1 + 1 ≤ d ∧ b1 ≤ k ∧ (∀ X G', Qz (.inr X) G' → KX X G') ∧ ∀ r G', Qz (.inl r) G' → ∃ x, r = some (.int x) ∧ K x G' (k - b1)
def xcR (E : ZE) (l : Launch) (Y : ZM) (d : Nat) (as : List Value) (G : ZG) (k : Nat) (KX : String → ZG → Prop) (K : Nat → ZG → Nat → Prop) : Prop := ∃ (d1 b1 : Nat) (Qz : ZQ), zMet E l Y d1 b1 as G Qz ∧ d1 + 1 ≤ d ∧ b1 ≤ k ∧ (∀ X G', Qz (.inr X) G' → KX X G') ∧ ∀ r G', Qz (.inl r) G' → ∃ x, r = some (.ref x) ∧ K x G' (k - b1)
def xcV (E : ZE) (l : Launch) (Y : ZM) (d : Nat) (as : List Value) (G : ZG) (k : Nat) (KX : String → ZG → Prop) (K : ZG → Nat → Prop) : Prop := ∃ (d1 b1 : Nat) (Qz : ZQ), zMet E l Y d1 b1 as G Qz ∧ d1 + 1 ≤ d ∧ b1 ≤ k ∧ (∀ X G', Qz (.inr X) G' → KX X G') ∧ ∀ r G', Qz (.inl r) G' → r = none ∧ K G' (k - b1)
/-- answers that are known -/
def zI (x : Int32) (G : ZG) : ZQ := fun r G' => r = .inl (some (.int x)) ∧ G' = G
def zRf (x : Nat) (G : ZG) : ZQ := fun r G' => r = .inl (some (.ref x)) ∧ G' = G
def zVd (G : ZG) : ZQ := fun r G' => r = .inl none ∧ G' = G
def zTh (X : String) (G : ZG) : ZQ := fun r G' => r = .inr X ∧ G' = G
section ZComb
variable {E : ZE} {l : Launch} {M Y : ZM} {d b d1 b1 k pc pc' : Nat} {G0 : ZG} {Q : ZQ} {ls : List (Option Value)} {st as : List Value} {G G1 : ZG}
theorem xcI_of {KX : String → ZG → Prop} {K : Int32 → ZG → Nat → Prop} {x : Int32} (hm : zMet E l Y d1 b1 as G (zI x G1)) (hd : d1 + 1 ≤ d) (hb : b1 ≤ k) (hk : K x G1 (k - b1)) : xcI E l Y d as G k KX K := ⟨d1, b1, _, hm, hd, hb, fun X G' h => (nomatch h.1), fun r G' h => by obtain ⟨h1, h2⟩ := h; cases h1; subst h2; exact ⟨_, rfl, hk⟩⟩
theorem xcR_of {KX : String → ZG → Prop} {K : Nat → ZG → Nat → Prop} {x : Nat} (hm : zMet E l Y d1 b1 as G (zRf x G1)) (hd : d1 + 1 ≤ d) (hb : b1 ≤ k) (hk : K x G1 (k - b1)) : xcR E l Y d as G k KX K := ⟨d1, b1, _, hm, hd, hb, fun X G' h => (nomatch h.1), fun r G' h => by obtain ⟨h1, h2⟩ := h; cases h1; subst h2; exact ⟨_, rfl, hk⟩⟩
theorem xcV_of {KX : String → ZG → Prop} {K : ZG → Nat → Prop} (hm : zMet E l Y d1 b1 as G (zVd G1)) (hd : d1 + 1 ≤ d) (hb : b1 ≤ k) (hk : K G1 (k - b1)) : xcV E l Y d as G k KX K := ⟨d1, b1, _, hm, hd, hb, fun X G' h => (nomatch h.1), fun r G' h => by obtain ⟨h1, h2⟩ := h; cases h1; subst h2; exact ⟨rfl, hk⟩⟩
theorem xcI_th {KX : String → ZG → Prop} {K : Int32 → ZG → Nat → Prop} {X : String} (hm : zMet E l Y d1 b1 as G (zTh X G1)) (hd : d1 + 1 ≤ d) (hb : b1 ≤ k) (hk : KX X G1) : xcI E l Y d as G k KX K := ⟨d1, b1, _, hm, hd, hb, fun X G' h => by obtain ⟨h1, h2⟩ := h; cases h1; subst h2; exact hk, fun r G' h => nomatch h.1⟩
theorem xcR_th {KX : String → ZG → Prop} {K : Nat → ZG → Nat → Prop} {X : String} (hm : zMet E l Y d1 b1 as G (zTh X G1)) (hd : d1 + 1 ≤ d) (hb : b1 ≤ k) (hk : KX X G1) : xcR E l Y d as G k KX K := ⟨d1, b1, _, hm, hd, hb, fun X G' h => by obtain ⟨h1, h2⟩ := h; cases h1; subst h2; exact hk, fun r G' h => nomatch h.1⟩
theorem xcV_th {KX : String → ZG → Prop} {K : ZG → Nat → Prop} {X : String} (hm : zMet E l Y d1 b1 as G (zTh X G1)) (hd : d1 + 1 ≤ d) (hb : b1 ≤ k) (hk : KX X G1) : xcV E l Y d as G k KX K := ⟨d1, b1, _, hm, hd, hb, fun X G' h => by obtain ⟨h1, h2⟩ := h; cases h1; subst h2; exact hk, fun r G' h => nomatch h.1⟩
theorem z_st (hG : G1 = G) (kk : zW E l M d b G0 Q k pc ls st G1) : zW E l M d b G0 Q k pc ls st G := hG ▸ kk
theorem z_mk {q q1 : Nat} (hq : q1 = q) (hG : G1 = G) (kk : zW E l M d b G0 Q k pc ls (.ref q1 :: st) G1) : zW E l M d b G0 Q k pc ls (.ref q :: st) G := by
  subst hq; subst hG; exact kk
def zsubl : List (Option Value) → List (Option Value) → Prop
  | [], _ => True
  | none :: a, [] => zsubl a []
  | none :: a, _ :: b => zsubl a b
  | some _ :: _, [] => False
  | some v :: a, u :: b => u = some v ∧ zsubl a b
theorem zsubl_at : ∀ (a b : List (Option Value)), zsubl a b → ∀ (i : Nat) (v : Value), a[i]? = some (some v) → b[i]? = some (some v)
  | [], _, _, i, v, h => by simp at h
  | none :: a, [], hs, 0, v, h => by simp at h
  | none :: a, [], hs, i + 1, v, h => by
    rw [List.getElem?_cons_succ] at h
    have := zsubl_at a [] hs i v h
    simp at this
  | none :: a, u :: b, hs, 0, v, h => by simp at h
  | none :: a, u :: b, hs, i + 1, v, h => by
    rw [List.getElem?_cons_succ] at h ⊢
    exact zsubl_at a b hs i v h
  | some w :: a, [], hs, i, v, h => hs.elim
  | some w :: a, u :: b, hs, 0, v, h => by
    rw [List.getElem?_cons_zero] at h ⊢
    rw [hs.1]; exact h
  | some w :: a, u :: b, hs, i + 1, v, h => by
    rw [List.getElem?_cons_succ] at h ⊢
    exact zsubl_at a b hs.2 i v h
theorem z_dr {ls' : List (Option Value)} (h : zsubl ls' ls) (kk : zW E l M d b G0 Q k pc ls' st G) : zW E l M d b G0 Q k pc ls st G := z_drop (zsubl_at _ _ h) kk
end ZComb
theorem zinc_1 (x : Int32) : x + Int32.ofInt 1 = x + 1 := by rw [show Int32.ofInt 1 = 1 from by decide]
theorem zinc_m1 (x : Int32) : x + Int32.ofInt (-1) = x + (-1) := by rw [show Int32.ofInt (-1) = -1 from by decide]
theorem zinc_8 (x : Int32) : x + Int32.ofInt 8 = x + 8 := by rw [show Int32.ofInt 8 = 8 from by decide]
theorem zinc_m8 (x : Int32) : x + Int32.ofInt (-8) = x + (-8) := by rw [show Int32.ofInt (-8) = -8 from by decide]
theorem z_df {ci : Nat} (h : ci < 14) : ∀ j, j < zN ci → defaultValue (zty ci j) = if zref (zty ci j) = true then .null else .int 0 := by
  have key : ∀ ci, ci < 14 → ∀ j, j < zN ci → defaultValue (zty ci j) = if zref (zty ci j) = true then Value.null else .int 0 := by decide +kernel
  exact key ci h
/-- a String constant's length and chars -/
def zstl (n : Nat) : Nat := (zstx.getD n "").length
def zstc (n j : Nat) : Int32 := Int32.ofNat ((zstx.getD n "").toList.getD j ' ').toNat
theorem x_IndexOutOfBoundsException : Cond.initialized "java/lang/IndexOutOfBoundsException" ∈ zgood := zg_1 26 (by decide +kernel) rfl
theorem x_IllegalArgumentException : Cond.initialized "java/lang/IllegalArgumentException" ∈ zgood := zg_1 18 (by decide +kernel) rfl
theorem x_UnsupportedOperationException : Cond.initialized "java/lang/UnsupportedOperationException" ∈ zgood := zg_1 23 (by decide +kernel) rfl
theorem x_IllegalStateException : Cond.initialized "java/lang/IllegalStateException" ∈ zgood := zg_1 31 (by decide +kernel) rfl
theorem x_NoSuchElementException : Cond.initialized "java/util/NoSuchElementException" ∈ zgood := zg_1 29 (by decide +kernel) rfl
theorem z_at0 {L : List Cond} (h : ∀ w ∈ L, w ∈ lw_tbl ∧ (goodWord w || zisc w) = true) : ∀ w ∈ L, w ∈ zgood ∨ w ∈ zcast := fun w hw => by
  obtain ⟨h1, h2⟩ := h w hw
  rcases Bool.or_eq_true _ _ |>.mp h2 with h3 | h3
  · exact Or.inl (List.mem_filter.mpr ⟨h1, h3⟩)
  · exact Or.inr (List.mem_filter.mpr ⟨h1, h3⟩)
theorem z_lkno {ps : List (Int × Int)} {dflt x : Int} (h : ∀ p ∈ ps, ¬ x = p.1) : Op.lookupswitch.offset ps dflt x = dflt := Op.lookupswitch.offset_none (List.find?_eq_none.mpr (fun p hp => by
  have h1 := h p hp
  simp only [beq_iff_eq]
  exact fun e => h1 e.symm))
theorem tX11_423 : ∀ w ∈ vx_at0 RX11 423 "java/lang/IllegalArgumentException" ["java/lang/RuntimeException", "java/lang/Exception"], w ∈ zgood ∨ w ∈ zcast := z_at0 (by decide +kernel)
theorem tX11_103 : ∀ w ∈ vx_at0 RX11 103 "java/lang/UnsupportedOperationException" ["java/lang/RuntimeException", "java/lang/Exception"], w ∈ zgood ∨ w ∈ zcast := z_at0 (by decide +kernel)
theorem tX11_359 : ∀ w ∈ vx_at0 RX11 359 "java/lang/IndexOutOfBoundsException" ["java/lang/RuntimeException", "java/lang/Exception"], w ∈ zgood ∨ w ∈ zcast := z_at0 (by decide +kernel)
theorem tX11_207 : ∀ w ∈ vx_at0 RX11 207 "java/util/NoSuchElementException" ["java/lang/RuntimeException", "java/lang/Exception"], w ∈ zgood ∨ w ∈ zcast := z_at0 (by decide +kernel)
theorem tX11_426 : ∀ w ∈ vx_at0 RX11 426 "java/lang/IllegalStateException" ["java/lang/RuntimeException", "java/lang/Exception"], w ∈ zgood ∨ w ∈ zcast := z_at0 (by decide +kernel)
theorem zne_X3_24 : Cond.methodLinkNest RX3 24 yX10_init RX11 ∈ znest := by simp [znest]
theorem zne_X11_38 : Cond.methodLinkNest RX11 38 yX7_init RX11 ∈ znest := by simp [znest]
theorem zne_X11_45 : Cond.methodLinkNest RX11 45 yX2_init RX11 ∈ znest := by simp [znest]
theorem zne_X11_52 : Cond.methodLinkNest RX11 52 yX9_init RX11 ∈ znest := by simp [znest]
theorem zne_X6_99 : Cond.methodLinkNest RX6 99 yX1_init RX11 ∈ znest := by simp [znest]
