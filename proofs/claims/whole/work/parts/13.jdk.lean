section ZStr
variable {E : ZE} {l : Launch} {M Y : ZM} {d b k pc pc' : Nat} {G0 : ZG} {Q : ZQ} {ls : List (Option Value)} {st : List Value} {G : ZG}
/-- String.length, String.charAt of a constant -/
theorem z_strlen {idx n q : Nat} (hd : decode M.2.1 pc = .ok (.invokevirtual idx, 3)) (hw : Cond.methodLink M.1.cls idx yJ0_length_8abf5 ∈ zgood) (hp : pc + 3 = pc') (hn : n < 32) (hq : q = zp 1000 n) (hdd : 4 ≤ d) (hst : (st.map fun v => v.category).sum ≤ 8) (kk : zW E l M d b G0 Q k pc' ls (.int (Int32.ofNat (zstl n)) :: st) G) : zW E l M d b G0 Q k pc ls (.ref q :: st) G := by
  sorry
theorem z_strat {idx n q : Nat} {i : Int32} (hd : decode M.2.1 pc = .ok (.invokevirtual idx, 3)) (hw : Cond.methodLink M.1.cls idx yJ0_charAt_5068e ∈ zgood) (hp : pc + 3 = pc') (hn : n < 32) (hq : q = zp 1000 n) (hdd : 6 ≤ d) (hi : vp_in i (zstl n)) (hst : (st.map fun v => v.category).sum ≤ 8) (kk : zW E l M d b G0 Q k pc' ls (.int (zstc n i.toNatClampNeg) :: st) G) : zW E l M d b G0 Q k pc ls (.int i :: .ref q :: st) G := by
  sorry
end ZStr
