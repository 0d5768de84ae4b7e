theorem zg_1 {w : Cond} (i : Nat) (h : tables_1_1[i]? = some w) (hg : goodWord w = true) : w ∈ zgood := List.mem_filter.mpr ⟨List.mem_append_right _ (List.mem_append_left _ (List.mem_of_getElem? h)), hg⟩
theorem zh_1 {w : Cond} (i : Nat) (h : tables_1_1[i]? = some w) (hg : zisc w = true) : w ∈ zcast := List.mem_filter.mpr ⟨List.mem_append_right _ (List.mem_append_left _ (List.mem_of_getElem? h)), hg⟩
theorem zg_2 {w : Cond} (i : Nat) (h : tables_1_2[i]? = some w) (hg : goodWord w = true) : w ∈ zgood := List.mem_filter.mpr ⟨List.mem_append_right _ (List.mem_append_right _ (List.mem_append_left _ (List.mem_of_getElem? h))), hg⟩
theorem zh_2 {w : Cond} (i : Nat) (h : tables_1_2[i]? = some w) (hg : zisc w = true) : w ∈ zcast := List.mem_filter.mpr ⟨List.mem_append_right _ (List.mem_append_right _ (List.mem_append_left _ (List.mem_of_getElem? h))), hg⟩
theorem zg_3 {w : Cond} (i : Nat) (h : tables_1_3[i]? = some w) (hg : goodWord w = true) : w ∈ zgood := List.mem_filter.mpr ⟨List.mem_append_right _ (List.mem_append_right _ (List.mem_append_right _ (List.mem_append_left _ (List.mem_of_getElem? h)))), hg⟩
theorem zh_3 {w : Cond} (i : Nat) (h : tables_1_3[i]? = some w) (hg : zisc w = true) : w ∈ zcast := List.mem_filter.mpr ⟨List.mem_append_right _ (List.mem_append_right _ (List.mem_append_right _ (List.mem_append_left _ (List.mem_of_getElem? h)))), hg⟩
theorem zg_4 {w : Cond} (i : Nat) (h : tables_1_4[i]? = some w) (hg : goodWord w = true) : w ∈ zgood := List.mem_filter.mpr ⟨List.mem_append_right _ (List.mem_append_right _ (List.mem_append_right _ (List.mem_append_right _ (List.mem_append_left _ (List.mem_of_getElem? h))))), hg⟩
theorem zh_4 {w : Cond} (i : Nat) (h : tables_1_4[i]? = some w) (hg : zisc w = true) : w ∈ zcast := List.mem_filter.mpr ⟨List.mem_append_right _ (List.mem_append_right _ (List.mem_append_right _ (List.mem_append_right _ (List.mem_append_left _ (List.mem_of_getElem? h))))), hg⟩
theorem zg_5 {w : Cond} (i : Nat) (h : tables_1_5[i]? = some w) (hg : goodWord w = true) : w ∈ zgood := List.mem_filter.mpr ⟨List.mem_append_right _ (List.mem_append_right _ (List.mem_append_right _ (List.mem_append_right _ (List.mem_append_right _ (List.mem_append_left _ (List.mem_of_getElem? h)))))), hg⟩
theorem zh_5 {w : Cond} (i : Nat) (h : tables_1_5[i]? = some w) (hg : zisc w = true) : w ∈ zcast := List.mem_filter.mpr ⟨List.mem_append_right _ (List.mem_append_right _ (List.mem_append_right _ (List.mem_append_right _ (List.mem_append_right _ (List.mem_append_left _ (List.mem_of_getElem? h)))))), hg⟩
theorem zg_6 {w : Cond} (i : Nat) (h : tables_1_6[i]? = some w) (hg : goodWord w = true) : w ∈ zgood := List.mem_filter.mpr ⟨List.mem_append_right _ (List.mem_append_right _ (List.mem_append_right _ (List.mem_append_right _ (List.mem_append_right _ (List.mem_append_right _ (List.mem_append_left _ (List.mem_of_getElem? h))))))), hg⟩
theorem zh_6 {w : Cond} (i : Nat) (h : tables_1_6[i]? = some w) (hg : zisc w = true) : w ∈ zcast := List.mem_filter.mpr ⟨List.mem_append_right _ (List.mem_append_right _ (List.mem_append_right _ (List.mem_append_right _ (List.mem_append_right _ (List.mem_append_right _ (List.mem_append_left _ (List.mem_of_getElem? h))))))), hg⟩
theorem zg_7 {w : Cond} (i : Nat) (h : tables_1_7[i]? = some w) (hg : goodWord w = true) : w ∈ zgood := List.mem_filter.mpr ⟨List.mem_append_right _ (List.mem_append_right _ (List.mem_append_right _ (List.mem_append_right _ (List.mem_append_right _ (List.mem_append_right _ (List.mem_append_right _ (List.mem_append_left _ (List.mem_of_getElem? h)))))))), hg⟩
theorem zh_7 {w : Cond} (i : Nat) (h : tables_1_7[i]? = some w) (hg : zisc w = true) : w ∈ zcast := List.mem_filter.mpr ⟨List.mem_append_right _ (List.mem_append_right _ (List.mem_append_right _ (List.mem_append_right _ (List.mem_append_right _ (List.mem_append_right _ (List.mem_append_right _ (List.mem_append_left _ (List.mem_of_getElem? h)))))))), hg⟩
theorem zg_8 {w : Cond} (i : Nat) (h : tables_1_8[i]? = some w) (hg : goodWord w = true) : w ∈ zgood := List.mem_filter.mpr ⟨List.mem_append_right _ (List.mem_append_right _ (List.mem_append_right _ (List.mem_append_right _ (List.mem_append_right _ (List.mem_append_right _ (List.mem_append_right _ (List.mem_append_right _ (List.mem_append_left _ (List.mem_of_getElem? h))))))))), hg⟩
theorem zh_8 {w : Cond} (i : Nat) (h : tables_1_8[i]? = some w) (hg : zisc w = true) : w ∈ zcast := List.mem_filter.mpr ⟨List.mem_append_right _ (List.mem_append_right _ (List.mem_append_right _ (List.mem_append_right _ (List.mem_append_right _ (List.mem_append_right _ (List.mem_append_right _ (List.mem_append_right _ (List.mem_append_left _ (List.mem_of_getElem? h))))))))), hg⟩
theorem zg_9 {w : Cond} (i : Nat) (h : tables_1_9[i]? = some w) (hg : goodWord w = true) : w ∈ zgood := List.mem_filter.mpr ⟨List.mem_append_right _ (List.mem_append_right _ (List.mem_append_right _ (List.mem_append_right _ (List.mem_append_right _ (List.mem_append_right _ (List.mem_append_right _ (List.mem_append_right _ (List.mem_append_right _ (List.mem_append_left _ (List.mem_of_getElem? h)))))))))), hg⟩
theorem zh_9 {w : Cond} (i : Nat) (h : tables_1_9[i]? = some w) (hg : zisc w = true) : w ∈ zcast := List.mem_filter.mpr ⟨List.mem_append_right _ (List.mem_append_right _ (List.mem_append_right _ (List.mem_append_right _ (List.mem_append_right _ (List.mem_append_right _ (List.mem_append_right _ (List.mem_append_right _ (List.mem_append_right _ (List.mem_append_left _ (List.mem_of_getElem? h)))))))))), hg⟩
theorem zg_10 {w : Cond} (i : Nat) (h : tables_1_10[i]? = some w) (hg : goodWord w = true) : w ∈ zgood := List.mem_filter.mpr ⟨List.mem_append_right _ (List.mem_append_right _ (List.mem_append_right _ (List.mem_append_right _ (List.mem_append_right _ (List.mem_append_right _ (List.mem_append_right _ (List.mem_append_right _ (List.mem_append_right _ (List.mem_append_right _ (List.mem_of_getElem? h)))))))))), hg⟩
theorem zh_10 {w : Cond} (i : Nat) (h : tables_1_10[i]? = some w) (hg : zisc w = true) : w ∈ zcast := List.mem_filter.mpr ⟨List.mem_append_right _ (List.mem_append_right _ (List.mem_append_right _ (List.mem_append_right _ (List.mem_append_right _ (List.mem_append_right _ (List.mem_append_right _ (List.mem_append_right _ (List.mem_append_right _ (List.mem_append_right _ (List.mem_of_getElem? h)))))))))), hg⟩
/-! the words of the tables, one by one: which entry of which class is what -/
theorem kL_8 : Cond.classLink RL 8 "PassportOffice" ∈ zgood := zg_1 38 (by decide +kernel) rfl
theorem kL_114 : Cond.methodLink RL 114 yX11_init ∈ zgood := zg_1 40 (by decide +kernel) rfl
theorem kX11_1 : Cond.methodLink RX11 1 ⟨"java/lang/Object", "<init>", "()V"⟩ ∈ zgood := zg_1 43 (by decide +kernel) rfl
theorem kX11_20 : Cond.classLink RX11 20 "java/util/ArrayList" ∈ zgood := zg_1 46 (by decide +kernel) rfl
theorem kX11_22 : Cond.methodLink RX11 22 yJx4a65c_init_da8c8 ∈ zgood := zg_1 48 (by decide +kernel) rfl
theorem kJx4a65c_1 : Cond.methodLink RJx4a65c 1 yJxc12de_init_da8c8 ∈ zgood := zg_1 51 (by decide +kernel) rfl
theorem kJxc12de_1 : Cond.methodLink RJxc12de 1 yJxa1e45_init_da8c8 ∈ zgood := zg_1 54 (by decide +kernel) rfl
theorem kJxa1e45_1 : Cond.methodLink RJxa1e45 1 ⟨"java/lang/Object", "<init>", "()V"⟩ ∈ zgood := zg_1 57 (by decide +kernel) rfl
theorem kJx4a65c_39 : Cond.fieldLink RJx4a65c 39 "java/util/ArrayList" "DEFAULTCAPACITY_EMPTY_ELEMENTDATA" "[Ljava/lang/Object;" ∈ zgood := zg_1 58 (by decide +kernel) rfl
theorem kJx4a65c_9 : Cond.fieldLink RJx4a65c 9 "java/util/ArrayList" "elementData" "[Ljava/lang/Object;" ∈ zgood := zg_1 60 (by decide +kernel) rfl
theorem kJx4a65c_48 : Cond.fieldLink RJx4a65c 48 "java/util/ArrayList" "size" "I" ∈ zgood := zg_1 61 (by decide +kernel) rfl
theorem kJxc12de_7 : Cond.fieldLink RJxc12de 7 "java/util/AbstractList" "modCount" "I" ∈ zgood := zg_1 62 (by decide +kernel) rfl
theorem kJx4a65c_63 : Cond.fieldLink RJx4a65c 63 "java/util/ArrayList" "modCount" "I" ∈ zgood := zg_1 63 (by decide +kernel) rfl
theorem kX11_27 : Cond.classLink RX11 27 "PassportOffice$Law" ∈ zgood := zg_1 73 (by decide +kernel) rfl
theorem kX11_29 : Cond.methodLink RX11 29 yX3_init ∈ zgood := zg_1 75 (by decide +kernel) rfl
theorem kX3_3 : Cond.methodLink RX3 3 ⟨"java/lang/Object", "<init>", "()V"⟩ ∈ zgood := zg_1 78 (by decide +kernel) rfl
theorem kX3_22 : Cond.classLink RX3 22 "PassportOffice$Verdict" ∈ zgood := zg_1 79 (by decide +kernel) rfl
theorem kX10_3 : Cond.methodLink RX10 3 ⟨"java/lang/Object", "<init>", "()V"⟩ ∈ zgood := zg_1 84 (by decide +kernel) rfl
theorem kX10_9 : Cond.fieldLink RX10 9 "PassportOffice$Verdict" "needs" "I" ∈ zgood := zg_1 85 (by decide +kernel) rfl
theorem kX0_63 : Cond.fieldLink RX0 63 "PassportOffice$Verdict" "needs" "I" ∈ zgood := zg_1 86 (by decide +kernel) rfl
theorem kX11_184 : Cond.fieldLink RX11 184 "PassportOffice$Verdict" "needs" "I" ∈ zgood := zg_1 87 (by decide +kernel) rfl
theorem kX10_15 : Cond.fieldLink RX10 15 "PassportOffice$Verdict" "fee" "I" ∈ zgood := zg_1 88 (by decide +kernel) rfl
theorem kX11_189 : Cond.fieldLink RX11 189 "PassportOffice$Verdict" "fee" "I" ∈ zgood := zg_1 89 (by decide +kernel) rfl
theorem kX6_288 : Cond.fieldLink RX6 288 "PassportOffice$Verdict" "fee" "I" ∈ zgood := zg_1 90 (by decide +kernel) rfl
theorem kX10_18 : Cond.fieldLink RX10 18 "PassportOffice$Verdict" "risk" "I" ∈ zgood := zg_1 91 (by decide +kernel) rfl
theorem kX11_195 : Cond.fieldLink RX11 195 "PassportOffice$Verdict" "risk" "I" ∈ zgood := zg_1 92 (by decide +kernel) rfl
theorem kX6_209 : Cond.fieldLink RX6 209 "PassportOffice$Verdict" "risk" "I" ∈ zgood := zg_1 93 (by decide +kernel) rfl
theorem kX10_21 : Cond.fieldLink RX10 21 "PassportOffice$Verdict" "back" "I" ∈ zgood := zg_1 94 (by decide +kernel) rfl
theorem kX11_202 : Cond.fieldLink RX11 202 "PassportOffice$Verdict" "back" "I" ∈ zgood := zg_1 95 (by decide +kernel) rfl
theorem kX6_282 : Cond.fieldLink RX6 282 "PassportOffice$Verdict" "back" "I" ∈ zgood := zg_1 96 (by decide +kernel) rfl
theorem kX10_24 : Cond.fieldLink RX10 24 "PassportOffice$Verdict" "see" "Z" ∈ zgood := zg_1 97 (by decide +kernel) rfl
theorem kX11_198 : Cond.fieldLink RX11 198 "PassportOffice$Verdict" "see" "Z" ∈ zgood := zg_1 98 (by decide +kernel) rfl
theorem kX6_234 : Cond.fieldLink RX6 234 "PassportOffice$Verdict" "see" "Z" ∈ zgood := zg_1 99 (by decide +kernel) rfl
theorem kX10_28 : Cond.fieldLink RX10 28 "PassportOffice$Verdict" "years" "I" ∈ zgood := zg_1 100 (by decide +kernel) rfl
theorem kX3_38 : Cond.fieldLink RX3 38 "PassportOffice$Law" "from" "I" ∈ zgood := zg_1 114 (by decide +kernel) rfl
theorem kX11_115 : Cond.fieldLink RX11 115 "PassportOffice$Law" "from" "I" ∈ zgood := zg_1 115 (by decide +kernel) rfl
theorem kX3_9 : Cond.fieldLink RX3 9 "PassportOffice$Law" "clauses" "I" ∈ zgood := zg_1 116 (by decide +kernel) rfl
theorem kX11_108 : Cond.fieldLink RX11 108 "PassportOffice$Law" "clauses" "I" ∈ zgood := zg_1 117 (by decide +kernel) rfl
theorem kX3_15 : Cond.fieldLink RX3 15 "PassportOffice$Law" "firstWrong" "I" ∈ zgood := zg_1 118 (by decide +kernel) rfl
theorem kX11_94 : Cond.fieldLink RX11 94 "PassportOffice$Law" "firstWrong" "I" ∈ zgood := zg_1 119 (by decide +kernel) rfl
theorem kX3_41 : Cond.fieldLink RX3 41 "PassportOffice$Law" "text" "[I" ∈ zgood := zg_1 120 (by decide +kernel) rfl
theorem kX3_18 : Cond.fieldLink RX3 18 "PassportOffice$Law" "facts" "[I" ∈ zgood := zg_1 121 (by decide +kernel) rfl
theorem kX3_25 : Cond.fieldLink RX3 25 "PassportOffice$Law" "verdict" "LPassportOffice$Verdict;" ∈ zgood := zg_1 122 (by decide +kernel) rfl
theorem kX3_29 : Cond.fieldLink RX3 29 "PassportOffice$Law" "thing" "I" ∈ zgood := zg_1 123 (by decide +kernel) rfl
theorem kX3_32 : Cond.fieldLink RX3 32 "PassportOffice$Law" "begin" "I" ∈ zgood := zg_1 124 (by decide +kernel) rfl
theorem kX3_35 : Cond.fieldLink RX3 35 "PassportOffice$Law" "end" "I" ∈ zgood := zg_1 125 (by decide +kernel) rfl
theorem kX11_36 : Cond.classLink RX11 36 "PassportOffice$People" ∈ zgood := zg_1 145 (by decide +kernel) rfl
theorem kX7_1 : Cond.methodLink RX7 1 ⟨"java/lang/Object", "<init>", "()V"⟩ ∈ zgood := zg_1 150 (by decide +kernel) rfl
theorem kX7_7 : Cond.classLink RX7 7 "java/util/ArrayList" ∈ zgood := zg_1 151 (by decide +kernel) rfl
theorem kX7_9 : Cond.methodLink RX7 9 yJx4a65c_init_da8c8 ∈ zgood := zg_1 152 (by decide +kernel) rfl
theorem kX7_10 : Cond.fieldLink RX7 10 "PassportOffice$People" "all" "Ljava/util/ArrayList;" ∈ zgood := zg_1 153 (by decide +kernel) rfl
theorem kX11_123 : Cond.fieldLink RX11 123 "PassportOffice$People" "all" "Ljava/util/ArrayList;" ∈ zgood := zg_1 154 (by decide +kernel) rfl
theorem kX11_43 : Cond.classLink RX11 43 "PassportOffice$Desks" ∈ zgood := zg_1 158 (by decide +kernel) rfl
theorem kX2_1 : Cond.methodLink RX2 1 ⟨"java/lang/Object", "<init>", "()V"⟩ ∈ zgood := zg_1 163 (by decide +kernel) rfl
theorem kX2_7 : Cond.classLink RX2 7 "java/util/ArrayList" ∈ zgood := zg_1 164 (by decide +kernel) rfl
theorem kX2_9 : Cond.methodLink RX2 9 yJx4a65c_init_da8c8 ∈ zgood := zg_1 165 (by decide +kernel) rfl
theorem kX2_10 : Cond.fieldLink RX2 10 "PassportOffice$Desks" "lent" "Ljava/util/ArrayList;" ∈ zgood := zg_1 166 (by decide +kernel) rfl
theorem kX11_298 : Cond.fieldLink RX11 298 "PassportOffice$Desks" "lent" "Ljava/util/ArrayList;" ∈ zgood := zg_1 167 (by decide +kernel) rfl
theorem kX2_16 : Cond.fieldLink RX2 16 "PassportOffice$Desks" "hands" "[I" ∈ zgood := zg_1 168 (by decide +kernel) rfl
theorem kX11_50 : Cond.classLink RX11 50 "PassportOffice$Rules" ∈ zgood := zg_1 174 (by decide +kernel) rfl
theorem kX9_1 : Cond.methodLink RX9 1 ⟨"java/lang/Object", "<init>", "()V"⟩ ∈ zgood := zg_1 179 (by decide +kernel) rfl
theorem kX9_7 : Cond.fieldLink RX9 7 "PassportOffice$Rules" "patience" "I" ∈ zgood := zg_1 180 (by decide +kernel) rfl
theorem kX6_176 : Cond.fieldLink RX6 176 "PassportOffice$Rules" "patience" "I" ∈ zgood := zg_1 181 (by decide +kernel) rfl
theorem kX11_310 : Cond.fieldLink RX11 310 "PassportOffice$Rules" "patience" "I" ∈ zgood := zg_1 182 (by decide +kernel) rfl
theorem kX9_13 : Cond.fieldLink RX9 13 "PassportOffice$Rules" "limit" "I" ∈ zgood := zg_1 183 (by decide +kernel) rfl
theorem kX6_245 : Cond.fieldLink RX6 245 "PassportOffice$Rules" "limit" "I" ∈ zgood := zg_1 184 (by decide +kernel) rfl
theorem kX11_313 : Cond.fieldLink RX11 313 "PassportOffice$Rules" "limit" "I" ∈ zgood := zg_1 185 (by decide +kernel) rfl
theorem kX9_16 : Cond.fieldLink RX9 16 "PassportOffice$Rules" "doubt" "I" ∈ zgood := zg_1 186 (by decide +kernel) rfl
theorem kX6_237 : Cond.fieldLink RX6 237 "PassportOffice$Rules" "doubt" "I" ∈ zgood := zg_1 187 (by decide +kernel) rfl
theorem kX11_316 : Cond.fieldLink RX11 316 "PassportOffice$Rules" "doubt" "I" ∈ zgood := zg_1 188 (by decide +kernel) rfl
theorem kX9_19 : Cond.fieldLink RX9 19 "PassportOffice$Rules" "home" "I" ∈ zgood := zg_1 189 (by decide +kernel) rfl
theorem kX6_276 : Cond.fieldLink RX6 276 "PassportOffice$Rules" "home" "I" ∈ zgood := zg_1 190 (by decide +kernel) rfl
theorem kX11_319 : Cond.fieldLink RX11 319 "PassportOffice$Rules" "home" "I" ∈ zgood := zg_1 191 (by decide +kernel) rfl
theorem kX9_22 : Cond.fieldLink RX9 22 "PassportOffice$Rules" "abroad" "I" ∈ zgood := zg_1 192 (by decide +kernel) rfl
theorem kX6_274 : Cond.fieldLink RX6 274 "PassportOffice$Rules" "abroad" "I" ∈ zgood := zg_1 193 (by decide +kernel) rfl
theorem kX11_322 : Cond.fieldLink RX11 322 "PassportOffice$Rules" "abroad" "I" ∈ zgood := zg_1 194 (by decide +kernel) rfl
theorem kX9_25 : Cond.fieldLink RX9 25 "PassportOffice$Rules" "brokenFrom" "I" ∈ zgood := zg_1 195 (by decide +kernel) rfl
theorem kX6_214 : Cond.fieldLink RX6 214 "PassportOffice$Rules" "brokenFrom" "I" ∈ zgood := zg_1 196 (by decide +kernel) rfl
theorem kX11_333 : Cond.fieldLink RX11 333 "PassportOffice$Rules" "brokenFrom" "I" ∈ zgood := zg_1 197 (by decide +kernel) rfl
theorem kX9_28 : Cond.fieldLink RX9 28 "PassportOffice$Rules" "brokenTo" "I" ∈ zgood := zg_1 198 (by decide +kernel) rfl
theorem kX6_217 : Cond.fieldLink RX6 217 "PassportOffice$Rules" "brokenTo" "I" ∈ zgood := zg_1 199 (by decide +kernel) rfl
theorem kX11_336 : Cond.fieldLink RX11 336 "PassportOffice$Rules" "brokenTo" "I" ∈ zgood := zg_1 200 (by decide +kernel) rfl
theorem kX11_57 : Cond.classLink RX11 57 "PassportOffice$Office" ∈ zgood := zg_1 216 (by decide +kernel) rfl
theorem kX11_59 : Cond.methodLink RX11 59 yX6_init ∈ zgood := zg_1 218 (by decide +kernel) rfl
theorem kX6_3 : Cond.methodLink RX6 3 ⟨"java/lang/Object", "<init>", "()V"⟩ ∈ zgood := zg_1 221 (by decide +kernel) rfl
theorem kX6_9 : Cond.classLink RX6 9 "java/util/ArrayList" ∈ zgood := zg_1 222 (by decide +kernel) rfl
theorem kX6_11 : Cond.methodLink RX6 11 yJx4a65c_init_da8c8 ∈ zgood := zg_1 223 (by decide +kernel) rfl
theorem kX6_49 : Cond.fieldLink RX6 49 "PassportOffice$Office" "people" "LPassportOffice$People;" ∈ zgood := zg_1 224 (by decide +kernel) rfl
theorem kX6_53 : Cond.fieldLink RX6 53 "PassportOffice$Office" "desks" "LPassportOffice$Desks;" ∈ zgood := zg_1 225 (by decide +kernel) rfl
theorem kX6_57 : Cond.fieldLink RX6 57 "PassportOffice$Office" "rules" "LPassportOffice$Rules;" ∈ zgood := zg_1 226 (by decide +kernel) rfl
theorem kX6_12 : Cond.fieldLink RX6 12 "PassportOffice$Office" "askings" "Ljava/util/ArrayList;" ∈ zgood := zg_1 227 (by decide +kernel) rfl
theorem kX11_223 : Cond.fieldLink RX11 223 "PassportOffice$Office" "askings" "Ljava/util/ArrayList;" ∈ zgood := zg_1 228 (by decide +kernel) rfl
theorem kX6_18 : Cond.fieldLink RX6 18 "PassportOffice$Office" "bookletRows" "Ljava/util/ArrayList;" ∈ zgood := zg_1 229 (by decide +kernel) rfl
theorem kX6_21 : Cond.fieldLink RX6 21 "PassportOffice$Office" "printed" "I" ∈ zgood := zg_1 230 (by decide +kernel) rfl
theorem kX11_406 : Cond.fieldLink RX11 406 "PassportOffice$Office" "printed" "I" ∈ zgood := zg_1 231 (by decide +kernel) rfl
theorem kX6_25 : Cond.fieldLink RX6 25 "PassportOffice$Office" "today" "I" ∈ zgood := zg_1 232 (by decide +kernel) rfl
theorem kX11_83 : Cond.fieldLink RX11 83 "PassportOffice$Office" "today" "I" ∈ zgood := zg_1 233 (by decide +kernel) rfl
theorem kX6_28 : Cond.fieldLink RX6 28 "PassportOffice$Office" "order" "I" ∈ zgood := zg_1 234 (by decide +kernel) rfl
theorem kX11_327 : Cond.fieldLink RX11 327 "PassportOffice$Office" "order" "I" ∈ zgood := zg_1 235 (by decide +kernel) rfl
theorem kX6_31 : Cond.fieldLink RX6 31 "PassportOffice$Office" "blanks" "I" ∈ zgood := zg_1 236 (by decide +kernel) rfl
theorem kX11_330 : Cond.fieldLink RX11 330 "PassportOffice$Office" "blanks" "I" ∈ zgood := zg_1 237 (by decide +kernel) rfl
theorem kX6_34 : Cond.fieldLink RX6 34 "PassportOffice$Office" "feesTaken" "I" ∈ zgood := zg_1 238 (by decide +kernel) rfl
theorem kX11_232 : Cond.fieldLink RX11 232 "PassportOffice$Office" "feesTaken" "I" ∈ zgood := zg_1 239 (by decide +kernel) rfl
theorem kX6_37 : Cond.fieldLink RX6 37 "PassportOffice$Office" "feesBack" "I" ∈ zgood := zg_2 0 (by decide +kernel) rfl
theorem kX11_409 : Cond.fieldLink RX11 409 "PassportOffice$Office" "feesBack" "I" ∈ zgood := zg_2 1 (by decide +kernel) rfl
theorem kX6_40 : Cond.fieldLink RX6 40 "PassportOffice$Office" "calls" "I" ∈ zgood := zg_2 2 (by decide +kernel) rfl
theorem kX11_412 : Cond.fieldLink RX11 412 "PassportOffice$Office" "calls" "I" ∈ zgood := zg_2 3 (by decide +kernel) rfl
theorem kX6_43 : Cond.fieldLink RX6 43 "PassportOffice$Office" "allCalls" "I" ∈ zgood := zg_2 4 (by decide +kernel) rfl
theorem kX11_415 : Cond.fieldLink RX11 415 "PassportOffice$Office" "allCalls" "I" ∈ zgood := zg_2 5 (by decide +kernel) rfl
theorem kX6_46 : Cond.fieldLink RX6 46 "PassportOffice$Office" "unitsLeft" "I" ∈ zgood := zg_2 6 (by decide +kernel) rfl
theorem kX11_418 : Cond.fieldLink RX11 418 "PassportOffice$Office" "unitsLeft" "I" ∈ zgood := zg_2 7 (by decide +kernel) rfl
theorem kX11_9 : Cond.fieldLink RX11 9 "PassportOffice" "tape" "[I" ∈ zgood := zg_2 37 (by decide +kernel) rfl
theorem kX11_13 : Cond.fieldLink RX11 13 "PassportOffice" "tapeLength" "I" ∈ zgood := zg_2 38 (by decide +kernel) rfl
theorem kX11_17 : Cond.fieldLink RX11 17 "PassportOffice" "fault" "I" ∈ zgood := zg_2 39 (by decide +kernel) rfl
theorem kX11_23 : Cond.fieldLink RX11 23 "PassportOffice" "laws" "Ljava/util/ArrayList;" ∈ zgood := zg_2 40 (by decide +kernel) rfl
theorem kX11_32 : Cond.fieldLink RX11 32 "PassportOffice" "noLaw" "LPassportOffice$Law;" ∈ zgood := zg_2 41 (by decide +kernel) rfl
theorem kX11_39 : Cond.fieldLink RX11 39 "PassportOffice" "people" "LPassportOffice$People;" ∈ zgood := zg_2 42 (by decide +kernel) rfl
theorem kX11_46 : Cond.fieldLink RX11 46 "PassportOffice" "desks" "LPassportOffice$Desks;" ∈ zgood := zg_2 43 (by decide +kernel) rfl
theorem kX11_53 : Cond.fieldLink RX11 53 "PassportOffice" "rules" "LPassportOffice$Rules;" ∈ zgood := zg_2 44 (by decide +kernel) rfl
theorem kX11_62 : Cond.fieldLink RX11 62 "PassportOffice" "office" "LPassportOffice$Office;" ∈ zgood := zg_2 45 (by decide +kernel) rfl
theorem kX11_66 : Cond.fieldLink RX11 66 "PassportOffice" "trial" "LPassportOffice$Office;" ∈ zgood := zg_2 46 (by decide +kernel) rfl
theorem kL_118 : Cond.methodLink RL 118 yX11_feed ∈ zgood := zg_2 68 (by decide +kernel) rfl
theorem kX11_69 : Cond.methodLink RX11 69 yX11_putBytes ∈ zgood := zg_2 72 (by decide +kernel) rfl
theorem kL_122 : Cond.methodLink RL 122 yX11_end ∈ zgood := zg_2 76 (by decide +kernel) rfl
theorem kL_137 : Cond.methodLink RL 137 yX11_fault ∈ zgood := zg_2 80 (by decide +kernel) rfl
theorem kL_232 : Cond.methodLink RL 232 yX11_ends ∈ zgood := zg_2 84 (by decide +kernel) rfl
theorem kX11_400 : Cond.methodLink RX11 400 yX6_countEnds ∈ zgood := zg_2 88 (by decide +kernel) rfl
theorem kX6_113 : Cond.methodLink RX6 113 yX6_bookletAt ∈ zgood := zg_2 92 (by decide +kernel) rfl
theorem kX6_68 : Cond.methodLink RX6 68 yJx4a65c_size_8abf5 ∈ zgood := zg_2 96 (by decide +kernel) rfl
theorem kX6_72 : Cond.methodLink RX6 72 yJx4a65c_get_915e3 ∈ zgood := zg_2 100 (by decide +kernel) rfl
theorem kJx4a65c_118 : Cond.methodLink RJx4a65c 118 yJ15_checkIndex_7cf53 ∈ zgood := zg_2 104 (by decide +kernel) rfl
theorem kJ15_105 : Cond.methodLink RJ15 105 yJ3_checkIndex_8e157 ∈ zgood := zg_2 107 (by decide +kernel) rfl
theorem kJx4a65c_123 : Cond.methodLink RJx4a65c 123 yJx4a65c_elementData_915e3 ∈ zgood := zg_2 110 (by decide +kernel) rfl
theorem kX6_94 : Cond.classLink RX6 94 "PassportOffice$Booklet" ∈ zgood := zg_2 114 (by decide +kernel) rfl
theorem kL_236 : Cond.methodLink RL 236 yX11_count ∈ zgood := zg_2 115 (by decide +kernel) rfl
theorem kX11_97 : Cond.methodLink RX11 97 yJx4a65c_size_8abf5 ∈ zgood := zg_2 119 (by decide +kernel) rfl
theorem kX11_403 : Cond.methodLink RX11 403 yX6_countOpen ∈ zgood := zg_2 120 (by decide +kernel) rfl
theorem kX6_76 : Cond.classLink RX6 76 "PassportOffice$Asking" ∈ zgood := zg_2 124 (by decide +kernel) rfl
theorem kX6_109 : Cond.methodLink RX6 109 yX0_isOpen ∈ zgood := zg_2 125 (by decide +kernel) rfl
theorem kX11_345 : Cond.methodLink RX11 345 yX6_countIn ∈ zgood := zg_2 129 (by decide +kernel) rfl
theorem kX11_176 : Cond.methodLink RX11 176 yX11_lawOfToday ∈ zgood := zg_2 133 (by decide +kernel) rfl
theorem kX11_111 : Cond.methodLink RX11 111 yJx4a65c_get_915e3 ∈ zgood := zg_2 137 (by decide +kernel) rfl
theorem kL_127 : Cond.methodLink RL 127 yL_law ∈ zgood := zg_2 138 (by decide +kernel) rfl
theorem kL_13 : Cond.classLink RL 13 "java/lang/IllegalArgumentException" ∈ zgood := zg_2 141 (by decide +kernel) rfl
theorem kL_15 : Cond.classLink RL 15 "java/lang/UnsupportedOperationException" ∈ zgood := zg_2 142 (by decide +kernel) rfl
theorem kL_7 : Cond.methodLink RL 7 yX11_law ∈ zgood := zg_2 143 (by decide +kernel) rfl
theorem kX11_79 : Cond.methodLink RX11 79 yX11_useTapeUp ∈ zgood := zg_2 147 (by decide +kernel) rfl
theorem kX11_73 : Cond.methodLink RX11 73 yJ7_copyOf_59c91 ∈ zgood := zg_2 151 (by decide +kernel) rfl
theorem kJ7_316 : Cond.methodLink RJ7 316 ⟨"[I", "clone", "()Ljava/lang/Object;"⟩ ∈ zgood := zg_2 154 (by decide +kernel) rfl
theorem kJ7_317 : Cond.classLink RJ7 317 "[I" ∈ zgood := zg_2 160 (by decide +kernel) rfl
theorem kJ7_304 : Cond.methodLink RJ7 304 yJ9_min_7cf53 ∈ zgood := zg_2 161 (by decide +kernel) rfl
theorem kJ7_150 : Cond.methodLink RJ7 150 ⟨"java/lang/System", "arraycopy", "(Ljava/lang/Object;ILjava/lang/Object;II)V"⟩ ∈ zgood := zg_2 164 (by decide +kernel) rfl
theorem kX11_86 : Cond.methodLink RX11 86 yX11_demand ∈ zgood := zg_2 167 (by decide +kernel) rfl
theorem kX11_421 : Cond.classLink RX11 421 "java/lang/IllegalArgumentException" ∈ zgood := zg_2 170 (by decide +kernel) rfl
theorem kX11_423 : Cond.methodLink RX11 423 ⟨"java/lang/IllegalArgumentException", "<init>", "()V"⟩ ∈ zgood := zg_2 213 (by decide +kernel) rfl
theorem kX11_90 : Cond.methodLink RX11 90 yX3_verdictOn ∈ zgood := zg_2 236 (by decide +kernel) rfl
theorem kX3_44 : Cond.methodLink RX3 44 yX3_advance ∈ zgood := zg_3 0 (by decide +kernel) rfl
theorem kX3_57 : Cond.methodLink RX3 57 yX3_thingOf ∈ zgood := zg_3 4 (by decide +kernel) rfl
theorem kX3_47 : Cond.methodLink RX3 47 yX3_readClause ∈ zgood := zg_3 7 (by decide +kernel) rfl
theorem kX3_61 : Cond.methodLink RX3 61 yX3_numberAmong ∈ zgood := zg_3 12 (by decide +kernel) rfl
theorem kX3_65 : Cond.methodLink RX3 65 yJ0_length_8abf5 ∈ zgood := zg_3 16 (by decide +kernel) rfl
theorem kJ0_335 : Cond.methodLink RJ0 335 yJ0_coder_7d493 ∈ zgood := zg_3 20 (by decide +kernel) rfl
theorem kJ0_38 : Cond.fieldLink RJ0 38 "java/lang/String" "COMPACT_STRINGS" "Z" ∈ zgood := zg_3 24 (by decide +kernel) rfl
theorem kX3_71 : Cond.methodLink RX3 71 yJ0_charAt_5068e ∈ zgood := zg_3 26 (by decide +kernel) rfl
theorem kJ0_492 : Cond.methodLink RJ0 492 yJ0_isLatin1_aae02 ∈ zgood := zg_3 30 (by decide +kernel) rfl
theorem kJ0_495 : Cond.methodLink RJ0 495 yJ1_charAt_3b067 ∈ zgood := zg_3 34 (by decide +kernel) rfl
theorem kJ1_9 : Cond.methodLink RJ1 9 yJ0_checkIndex_df160 ∈ zgood := zg_3 37 (by decide +kernel) rfl
theorem kJ0_1053 : Cond.fieldLink RJ0 1053 "jdk/internal/util/Preconditions" "SIOOBE_FORMATTER" "Ljava/util/function/BiFunction;" ∈ zgood := zg_3 40 (by decide +kernel) rfl
theorem kJ0_1059 : Cond.methodLink RJ0 1059 yJ3_checkIndex_8e157 ∈ zgood := zg_3 42 (by decide +kernel) rfl
theorem kJ0_498 : Cond.methodLink RJ0 498 yJ2_charAt_3b067 ∈ zgood := zg_3 43 (by decide +kernel) rfl
theorem kJ2_67 : Cond.methodLink RJ2 67 yJ2_checkIndex_2214a ∈ zgood := zg_3 46 (by decide +kernel) rfl
theorem kJ2_48 : Cond.methodLink RJ2 48 yJ2_length_9d52b ∈ zgood := zg_3 49 (by decide +kernel) rfl
theorem kJ2_414 : Cond.methodLink RJ2 414 yJ0_checkIndex_df160 ∈ zgood := zg_3 52 (by decide +kernel) rfl
theorem kJ2_71 : Cond.methodLink RJ2 71 yJ2_getChar_3b067 ∈ zgood := zg_3 53 (by decide +kernel) rfl
theorem kJ2_44 : Cond.fieldLink RJ2 44 "java/lang/StringUTF16" "$assertionsDisabled" "Z" ∈ zgood := zg_3 56 (by decide +kernel) rfl
theorem kJ2_59 : Cond.fieldLink RJ2 59 "java/lang/StringUTF16" "HI_BYTE_SHIFT" "I" ∈ zgood := zg_3 58 (by decide +kernel) rfl
theorem kJ2_63 : Cond.fieldLink RJ2 63 "java/lang/StringUTF16" "LO_BYTE_SHIFT" "I" ∈ zgood := zg_3 60 (by decide +kernel) rfl
theorem kX3_54 : Cond.methodLink RX3 54 yX3_fail ∈ zgood := zg_3 62 (by decide +kernel) rfl
theorem kX3_77 : Cond.methodLink RX3 77 yX3_readItem ∈ zgood := zg_3 66 (by decide +kernel) rfl
theorem kX3_80 : Cond.methodLink RX3 80 yX3_readNumber ∈ zgood := zg_3 71 (by decide +kernel) rfl
theorem kX3_85 : Cond.methodLink RX3 85 yX3_isWord ∈ zgood := zg_3 76 (by decide +kernel) rfl
theorem kX3_89 : Cond.methodLink RX3 89 yX3_readAny ∈ zgood := zg_3 80 (by decide +kernel) rfl
theorem kX3_98 : Cond.methodLink RX3 98 yX3_readAll ∈ zgood := zg_3 84 (by decide +kernel) rfl
theorem kX3_103 : Cond.methodLink RX3 103 yX3_readAtom ∈ zgood := zg_3 88 (by decide +kernel) rfl
theorem kX3_50 : Cond.methodLink RX3 50 yX3_isSign ∈ zgood := zg_3 93 (by decide +kernel) rfl
theorem kX3_110 : Cond.methodLink RX3 110 yX3_readFact ∈ zgood := zg_3 97 (by decide +kernel) rfl
theorem kX3_92 : Cond.methodLink RX3 92 yX10_take ∈ zgood := zg_3 104 (by decide +kernel) rfl
theorem kX10_31 : Cond.methodLink RX10 31 yJ9_max_7cf53 ∈ zgood := zg_3 108 (by decide +kernel) rfl
theorem kX11_101 : Cond.classLink RX11 101 "java/lang/UnsupportedOperationException" ∈ zgood := zg_3 111 (by decide +kernel) rfl
theorem kX11_103 : Cond.methodLink RX11 103 ⟨"java/lang/UnsupportedOperationException", "<init>", "()V"⟩ ∈ zgood := zg_3 120 (by decide +kernel) rfl
theorem kX11_104 : Cond.methodLink RX11 104 yJx4a65c_add_9ea2d ∈ zgood := zg_3 127 (by decide +kernel) rfl
theorem kJx4a65c_131 : Cond.methodLink RJx4a65c 131 yJx4a65c_add_72be8 ∈ zgood := zg_3 131 (by decide +kernel) rfl
theorem kJx4a65c_129 : Cond.methodLink RJx4a65c 129 yJx4a65c_grow_d5877 ∈ zgood := zg_3 135 (by decide +kernel) rfl
theorem kJx4a65c_69 : Cond.methodLink RJx4a65c 69 yJx4a65c_grow_92f84 ∈ zgood := zg_3 139 (by decide +kernel) rfl
theorem kJx4a65c_73 : Cond.methodLink RJx4a65c 73 yJ8_newLength_cabcc ∈ zgood := zg_3 143 (by decide +kernel) rfl
theorem kJ8_194 : Cond.methodLink RJ8 194 yJ9_max_7cf53 ∈ zgood := zg_3 146 (by decide +kernel) rfl
theorem kJ8_200 : Cond.constant RJ8 200 (2147483639) ∈ zgood := zg_3 147 (by decide +kernel) rfl
theorem kJ8_201 : Cond.methodLink RJ8 201 yJ8_hugeLength_7cf53 ∈ zgood := zg_3 148 (by decide +kernel) rfl
theorem kJx4a65c_66 : Cond.methodLink RJx4a65c 66 yJ7_copyOf_1904c ∈ zgood := zg_3 151 (by decide +kernel) rfl
theorem kJ7_86 : Cond.methodLink RJ7 86 ⟨"java/lang/Object", "getClass", "()Ljava/lang/Class;"⟩ ∈ zgood := zg_3 154 (by decide +kernel) rfl
theorem kJ7_300 : Cond.methodLink RJ7 300 yJ7_copyOf_6403c ∈ zgood := zg_3 179 (by decide +kernel) rfl
theorem kJ7_110 : Cond.classLink RJ7 110 "[Ljava/lang/Object;" ∈ zgood := zg_3 182 (by decide +kernel) rfl
theorem kJ7_2 : Cond.classLink RJ7 2 "java/lang/Object" ∈ zgood := zg_3 184 (by decide +kernel) rfl
theorem kJx4a65c_79 : Cond.methodLink RJx4a65c 79 yJ9_max_7cf53 ∈ zgood := zg_3 185 (by decide +kernel) rfl
theorem kJx4a65c_7 : Cond.classLink RJx4a65c 7 "java/lang/Object" ∈ zgood := zg_3 186 (by decide +kernel) rfl
theorem kL_141 : Cond.methodLink RL 141 yL_person ∈ zgood := zg_3 187 (by decide +kernel) rfl
theorem kL_17 : Cond.methodLink RL 17 yX11_person ∈ zgood := zg_3 190 (by decide +kernel) rfl
theorem kX11_118 : Cond.constant RX11 118 (-40000) ∈ zgood := zg_3 194 (by decide +kernel) rfl
theorem kX11_119 : Cond.methodLink RX11 119 yX11_isFace ∈ zgood := zg_3 195 (by decide +kernel) rfl
theorem kX11_126 : Cond.classLink RX11 126 "PassportOffice$Person" ∈ zgood := zg_3 198 (by decide +kernel) rfl
theorem kX11_128 : Cond.methodLink RX11 128 yX8_init ∈ zgood := zg_3 200 (by decide +kernel) rfl
theorem kX8_3 : Cond.methodLink RX8 3 ⟨"java/lang/Object", "<init>", "()V"⟩ ∈ zgood := zg_3 203 (by decide +kernel) rfl
theorem kX8_19 : Cond.fieldLink RX8 19 "PassportOffice$Person" "number" "I" ∈ zgood := zg_3 204 (by decide +kernel) rfl
theorem kX7_26 : Cond.fieldLink RX7 26 "PassportOffice$Person" "number" "I" ∈ zgood := zg_3 205 (by decide +kernel) rfl
theorem kX6_120 : Cond.fieldLink RX6 120 "PassportOffice$Person" "number" "I" ∈ zgood := zg_3 206 (by decide +kernel) rfl
theorem kX11_131 : Cond.fieldLink RX11 131 "PassportOffice$Person" "number" "I" ∈ zgood := zg_3 207 (by decide +kernel) rfl
theorem kX8_23 : Cond.fieldLink RX8 23 "PassportOffice$Person" "born" "I" ∈ zgood := zg_3 208 (by decide +kernel) rfl
theorem kX11_208 : Cond.fieldLink RX11 208 "PassportOffice$Person" "born" "I" ∈ zgood := zg_3 209 (by decide +kernel) rfl
theorem kX8_26 : Cond.fieldLink RX8 26 "PassportOffice$Person" "abroad" "Z" ∈ zgood := zg_3 210 (by decide +kernel) rfl
theorem kX11_215 : Cond.fieldLink RX11 215 "PassportOffice$Person" "abroad" "Z" ∈ zgood := zg_3 211 (by decide +kernel) rfl
theorem kX6_271 : Cond.fieldLink RX6 271 "PassportOffice$Person" "abroad" "Z" ∈ zgood := zg_3 212 (by decide +kernel) rfl
theorem kX8_9 : Cond.fieldLink RX8 9 "PassportOffice$Person" "name" "LPassportOffice$Name;" ∈ zgood := zg_3 213 (by decide +kernel) rfl
theorem kX11_146 : Cond.fieldLink RX11 146 "PassportOffice$Person" "name" "LPassportOffice$Name;" ∈ zgood := zg_3 214 (by decide +kernel) rfl
theorem kX8_30 : Cond.fieldLink RX8 30 "PassportOffice$Person" "face" "[I" ∈ zgood := zg_3 215 (by decide +kernel) rfl
theorem kX8_15 : Cond.fieldLink RX8 15 "PassportOffice$Person" "told" "[I" ∈ zgood := zg_3 216 (by decide +kernel) rfl
theorem kL_145 : Cond.methodLink RL 145 yL_name ∈ zgood := zg_3 230 (by decide +kernel) rfl
theorem kL_24 : Cond.classLink RL 24 "java/lang/IndexOutOfBoundsException" ∈ zgood := zg_3 233 (by decide +kernel) rfl
theorem kL_21 : Cond.methodLink RL 21 yX11_name ∈ zgood := zg_3 234 (by decide +kernel) rfl
theorem kX11_134 : Cond.methodLink RX11 134 yX11_personAt ∈ zgood := zg_3 238 (by decide +kernel) rfl
theorem kX11_357 : Cond.classLink RX11 357 "java/lang/IndexOutOfBoundsException" ∈ zgood := zg_4 2 (by decide +kernel) rfl
theorem kX11_359 : Cond.methodLink RX11 359 ⟨"java/lang/IndexOutOfBoundsException", "<init>", "()V"⟩ ∈ zgood := zg_4 11 (by decide +kernel) rfl
theorem kX11_138 : Cond.methodLink RX11 138 yX5_firstWrong ∈ zgood := zg_4 17 (by decide +kernel) rfl
theorem kX5_29 : Cond.methodLink RX5 29 yX5_isGap ∈ zgood := zg_4 20 (by decide +kernel) rfl
theorem kX5_33 : Cond.methodLink RX5 33 yX5_isLetter ∈ zgood := zg_4 23 (by decide +kernel) rfl
theorem kX5_36 : Cond.methodLink RX5 36 yX5_markedNumber ∈ zgood := zg_4 26 (by decide +kernel) rfl
theorem kX5_40 : Cond.fieldLink RX5 40 "PassportOffice$Name" "MARKED" "[I" ∈ zgood := zg_4 29 (by decide +kernel) rfl
theorem kX11_139 : Cond.classLink RX11 139 "PassportOffice$Name" ∈ zgood := zg_4 31 (by decide +kernel) rfl
theorem kX11_143 : Cond.methodLink RX11 143 yX5_init ∈ zgood := zg_4 33 (by decide +kernel) rfl
theorem kX5_3 : Cond.methodLink RX5 3 ⟨"java/lang/Object", "<init>", "()V"⟩ ∈ zgood := zg_4 36 (by decide +kernel) rfl
theorem kX5_19 : Cond.methodLink RX5 19 yJ7_fill_53178 ∈ zgood := zg_4 37 (by decide +kernel) rfl
theorem kX5_25 : Cond.methodLink RX5 25 yX5_write ∈ zgood := zg_4 40 (by decide +kernel) rfl
theorem kX5_45 : Cond.methodLink RX5 45 yJ0_length_8abf5 ∈ zgood := zg_4 45 (by decide +kernel) rfl
theorem kX5_52 : Cond.methodLink RX5 52 yJ0_charAt_5068e ∈ zgood := zg_4 47 (by decide +kernel) rfl
theorem kX5_56 : Cond.methodLink RX5 56 yX5_append ∈ zgood := zg_4 48 (by decide +kernel) rfl
theorem kX5_11 : Cond.fieldLink RX5 11 "PassportOffice$Name" "signs" "[I" ∈ zgood := zg_4 52 (by decide +kernel) rfl
theorem kX11_153 : Cond.fieldLink RX11 153 "PassportOffice$Name" "signs" "[I" ∈ zgood := zg_4 53 (by decide +kernel) rfl
theorem kX5_15 : Cond.fieldLink RX5 15 "PassportOffice$Name" "length" "I" ∈ zgood := zg_4 54 (by decide +kernel) rfl
theorem kX11_150 : Cond.fieldLink RX11 150 "PassportOffice$Name" "length" "I" ∈ zgood := zg_4 55 (by decide +kernel) rfl
theorem kL_148 : Cond.methodLink RL 148 yL_sign ∈ zgood := zg_4 61 (by decide +kernel) rfl
theorem kL_26 : Cond.methodLink RL 26 yX11_sign ∈ zgood := zg_4 64 (by decide +kernel) rfl
theorem kL_152 : Cond.methodLink RL 152 yL_figure ∈ zgood := zg_4 68 (by decide +kernel) rfl
theorem kL_30 : Cond.methodLink RL 30 yX11_figure ∈ zgood := zg_4 71 (by decide +kernel) rfl
theorem kX11_156 : Cond.methodLink RX11 156 yX5_checkFigure ∈ zgood := zg_4 75 (by decide +kernel) rfl
theorem kX5_59 : Cond.fieldLink RX5 59 "PassportOffice$Name" "WEIGHTS" "[I" ∈ zgood := zg_4 79 (by decide +kernel) rfl
theorem kL_155 : Cond.methodLink RL 155 yL_far ∈ zgood := zg_4 81 (by decide +kernel) rfl
theorem kL_33 : Cond.methodLink RL 33 yX11_far ∈ zgood := zg_4 84 (by decide +kernel) rfl
theorem kX11_159 : Cond.methodLink RX11 159 yX8_farFrom ∈ zgood := zg_4 88 (by decide +kernel) rfl
theorem kL_158 : Cond.methodLink RL 158 yL_tell ∈ zgood := zg_4 92 (by decide +kernel) rfl
theorem kL_36 : Cond.methodLink RL 36 yX11_tell ∈ zgood := zg_4 95 (by decide +kernel) rfl
theorem kX11_163 : Cond.methodLink RX11 163 yX8_putTold ∈ zgood := zg_4 99 (by decide +kernel) rfl
theorem kX11_167 : Cond.methodLink RX11 167 yX6_checkHeldAgain ∈ zgood := zg_4 103 (by decide +kernel) rfl
theorem kX6_222 : Cond.methodLink RX6 222 yX6_check ∈ zgood := zg_4 107 (by decide +kernel) rfl
theorem kX6_248 : Cond.methodLink RX6 248 yX7_isNearOne ∈ zgood := zg_4 111 (by decide +kernel) rfl
theorem kX7_16 : Cond.methodLink RX7 16 yJx4a65c_size_8abf5 ∈ zgood := zg_4 115 (by decide +kernel) rfl
theorem kX7_20 : Cond.methodLink RX7 20 yJx4a65c_get_915e3 ∈ zgood := zg_4 116 (by decide +kernel) rfl
theorem kX7_24 : Cond.classLink RX7 24 "PassportOffice$Person" ∈ zgood := zg_4 117 (by decide +kernel) rfl
theorem kX7_30 : Cond.methodLink RX7 30 yX8_toldWith ∈ zgood := zg_4 118 (by decide +kernel) rfl
theorem kX7_34 : Cond.methodLink RX7 34 yX8_farFrom ∈ zgood := zg_4 122 (by decide +kernel) rfl
theorem kL_162 : Cond.methodLink RL 162 yL_judge ∈ zgood := zg_4 123 (by decide +kernel) rfl
theorem kL_44 : Cond.classLink RL 44 "java/util/NoSuchElementException" ∈ zgood := zg_4 126 (by decide +kernel) rfl
theorem kL_40 : Cond.methodLink RL 40 yX11_judge ∈ zgood := zg_4 127 (by decide +kernel) rfl
theorem kX11_170 : Cond.methodLink RX11 170 yX11_isKind ∈ zgood := zg_4 131 (by decide +kernel) rfl
theorem kX11_173 : Cond.methodLink RX11 173 yX11_isWanted ∈ zgood := zg_4 134 (by decide +kernel) rfl
theorem kX11_180 : Cond.methodLink RX11 180 yX11_factsOf ∈ zgood := zg_4 138 (by decide +kernel) rfl
theorem kX11_211 : Cond.methodLink RX11 211 yX6_validOf ∈ zgood := zg_4 142 (by decide +kernel) rfl
theorem kX6_125 : Cond.methodLink RX6 125 yX1_isValidOn ∈ zgood := zg_4 146 (by decide +kernel) rfl
theorem kX11_192 : Cond.methodLink RX11 192 yX10_validYears ∈ zgood := zg_4 150 (by decide +kernel) rfl
theorem kX11_205 : Cond.classLink RX11 205 "java/util/NoSuchElementException" ∈ zgood := zg_4 154 (by decide +kernel) rfl
theorem kX11_207 : Cond.methodLink RX11 207 ⟨"java/util/NoSuchElementException", "<init>", "()V"⟩ ∈ zgood := zg_4 163 (by decide +kernel) rfl
theorem kL_166 : Cond.methodLink RL 166 yL_ask ∈ zgood := zg_4 169 (by decide +kernel) rfl
theorem kL_46 : Cond.methodLink RL 46 yX11_ask ∈ zgood := zg_4 172 (by decide +kernel) rfl
theorem kX11_220 : Cond.methodLink RX11 220 yX11_isItems ∈ zgood := zg_4 176 (by decide +kernel) rfl
theorem kX11_218 : Cond.classLink RX11 218 "PassportOffice$Asking" ∈ zgood := zg_4 179 (by decide +kernel) rfl
theorem kX11_226 : Cond.methodLink RX11 226 yX0_init ∈ zgood := zg_4 181 (by decide +kernel) rfl
theorem kX0_3 : Cond.methodLink RX0 3 ⟨"java/lang/Object", "<init>", "()V"⟩ ∈ zgood := zg_4 184 (by decide +kernel) rfl
theorem kX0_37 : Cond.fieldLink RX0 37 "PassportOffice$Asking" "number" "I" ∈ zgood := zg_4 185 (by decide +kernel) rfl
theorem kX6_159 : Cond.fieldLink RX6 159 "PassportOffice$Asking" "number" "I" ∈ zgood := zg_4 186 (by decide +kernel) rfl
theorem kX11_235 : Cond.fieldLink RX11 235 "PassportOffice$Asking" "number" "I" ∈ zgood := zg_4 187 (by decide +kernel) rfl
theorem kX0_40 : Cond.fieldLink RX0 40 "PassportOffice$Asking" "person" "LPassportOffice$Person;" ∈ zgood := zg_4 188 (by decide +kernel) rfl
theorem kX6_240 : Cond.fieldLink RX6 240 "PassportOffice$Asking" "person" "LPassportOffice$Person;" ∈ zgood := zg_4 189 (by decide +kernel) rfl
theorem kX11_262 : Cond.fieldLink RX11 262 "PassportOffice$Asking" "person" "LPassportOffice$Person;" ∈ zgood := zg_4 190 (by decide +kernel) rfl
theorem kX0_44 : Cond.fieldLink RX0 44 "PassportOffice$Asking" "kind" "I" ∈ zgood := zg_4 191 (by decide +kernel) rfl
theorem kX6_252 : Cond.fieldLink RX6 252 "PassportOffice$Asking" "kind" "I" ∈ zgood := zg_4 192 (by decide +kernel) rfl
theorem kX11_266 : Cond.fieldLink RX11 266 "PassportOffice$Asking" "kind" "I" ∈ zgood := zg_4 193 (by decide +kernel) rfl
theorem kX0_47 : Cond.fieldLink RX0 47 "PassportOffice$Asking" "came" "I" ∈ zgood := zg_4 194 (by decide +kernel) rfl
theorem kX6_153 : Cond.fieldLink RX6 153 "PassportOffice$Asking" "came" "I" ∈ zgood := zg_4 195 (by decide +kernel) rfl
theorem kX11_269 : Cond.fieldLink RX11 269 "PassportOffice$Asking" "came" "I" ∈ zgood := zg_4 196 (by decide +kernel) rfl
theorem kX0_50 : Cond.fieldLink RX0 50 "PassportOffice$Asking" "wanted" "I" ∈ zgood := zg_4 197 (by decide +kernel) rfl
theorem kX6_156 : Cond.fieldLink RX6 156 "PassportOffice$Asking" "wanted" "I" ∈ zgood := zg_4 198 (by decide +kernel) rfl
theorem kX11_272 : Cond.fieldLink RX11 272 "PassportOffice$Asking" "wanted" "I" ∈ zgood := zg_4 199 (by decide +kernel) rfl
theorem kX0_53 : Cond.fieldLink RX0 53 "PassportOffice$Asking" "urgent" "Z" ∈ zgood := zg_4 200 (by decide +kernel) rfl
theorem kX6_146 : Cond.fieldLink RX6 146 "PassportOffice$Asking" "urgent" "Z" ∈ zgood := zg_4 201 (by decide +kernel) rfl
theorem kX0_56 : Cond.fieldLink RX0 56 "PassportOffice$Asking" "verdict" "LPassportOffice$Verdict;" ∈ zgood := zg_4 202 (by decide +kernel) rfl
theorem kX6_205 : Cond.fieldLink RX6 205 "PassportOffice$Asking" "verdict" "LPassportOffice$Verdict;" ∈ zgood := zg_4 203 (by decide +kernel) rfl
theorem kX11_275 : Cond.fieldLink RX11 275 "PassportOffice$Asking" "verdict" "LPassportOffice$Verdict;" ∈ zgood := zg_4 204 (by decide +kernel) rfl
theorem kX0_11 : Cond.fieldLink RX0 11 "PassportOffice$Asking" "state" "I" ∈ zgood := zg_4 205 (by decide +kernel) rfl
theorem kX6_106 : Cond.fieldLink RX6 106 "PassportOffice$Asking" "state" "I" ∈ zgood := zg_4 206 (by decide +kernel) rfl
theorem kX11_240 : Cond.fieldLink RX11 240 "PassportOffice$Asking" "state" "I" ∈ zgood := zg_4 207 (by decide +kernel) rfl
theorem kX0_15 : Cond.fieldLink RX0 15 "PassportOffice$Asking" "items" "I" ∈ zgood := zg_4 208 (by decide +kernel) rfl
theorem kX11_229 : Cond.fieldLink RX11 229 "PassportOffice$Asking" "items" "I" ∈ zgood := zg_4 209 (by decide +kernel) rfl
theorem kX0_18 : Cond.fieldLink RX0 18 "PassportOffice$Asking" "feeBack" "Z" ∈ zgood := zg_4 210 (by decide +kernel) rfl
theorem kX11_279 : Cond.fieldLink RX11 279 "PassportOffice$Asking" "feeBack" "Z" ∈ zgood := zg_4 211 (by decide +kernel) rfl
theorem kX6_285 : Cond.fieldLink RX6 285 "PassportOffice$Asking" "feeBack" "Z" ∈ zgood := zg_4 212 (by decide +kernel) rfl
theorem kX0_22 : Cond.fieldLink RX0 22 "PassportOffice$Asking" "booklet" "I" ∈ zgood := zg_4 213 (by decide +kernel) rfl
theorem kX11_253 : Cond.fieldLink RX11 253 "PassportOffice$Asking" "booklet" "I" ∈ zgood := zg_4 214 (by decide +kernel) rfl
theorem kX6_259 : Cond.fieldLink RX6 259 "PassportOffice$Asking" "booklet" "I" ∈ zgood := zg_4 215 (by decide +kernel) rfl
theorem kX0_25 : Cond.fieldLink RX0 25 "PassportOffice$Asking" "read" "I" ∈ zgood := zg_4 216 (by decide +kernel) rfl
theorem kX6_202 : Cond.fieldLink RX6 202 "PassportOffice$Asking" "read" "I" ∈ zgood := zg_4 217 (by decide +kernel) rfl
theorem kX11_282 : Cond.fieldLink RX11 282 "PassportOffice$Asking" "read" "I" ∈ zgood := zg_4 218 (by decide +kernel) rfl
theorem kX0_28 : Cond.fieldLink RX0 28 "PassportOffice$Asking" "got" "I" ∈ zgood := zg_4 219 (by decide +kernel) rfl
theorem kX11_285 : Cond.fieldLink RX11 285 "PassportOffice$Asking" "got" "I" ∈ zgood := zg_4 220 (by decide +kernel) rfl
theorem kX6_279 : Cond.fieldLink RX6 279 "PassportOffice$Asking" "got" "I" ∈ zgood := zg_4 221 (by decide +kernel) rfl
theorem kX0_31 : Cond.fieldLink RX0 31 "PassportOffice$Asking" "comes" "I" ∈ zgood := zg_4 222 (by decide +kernel) rfl
theorem kX6_170 : Cond.fieldLink RX6 170 "PassportOffice$Asking" "comes" "I" ∈ zgood := zg_4 223 (by decide +kernel) rfl
theorem kX11_259 : Cond.fieldLink RX11 259 "PassportOffice$Asking" "comes" "I" ∈ zgood := zg_4 224 (by decide +kernel) rfl
theorem kX0_34 : Cond.fieldLink RX0 34 "PassportOffice$Asking" "backs" "I" ∈ zgood := zg_4 225 (by decide +kernel) rfl
theorem kX6_231 : Cond.fieldLink RX6 231 "PassportOffice$Asking" "backs" "I" ∈ zgood := zg_4 226 (by decide +kernel) rfl
theorem kX11_288 : Cond.fieldLink RX11 288 "PassportOffice$Asking" "backs" "I" ∈ zgood := zg_4 227 (by decide +kernel) rfl
theorem kL_170 : Cond.methodLink RL 170 yL_give ∈ zgood := zg_5 19 (by decide +kernel) rfl
theorem kL_53 : Cond.classLink RL 53 "java/lang/IllegalStateException" ∈ zgood := zg_5 22 (by decide +kernel) rfl
theorem kL_50 : Cond.methodLink RL 50 yX11_give ∈ zgood := zg_5 23 (by decide +kernel) rfl
theorem kX11_236 : Cond.methodLink RX11 236 yX11_askingAt ∈ zgood := zg_5 27 (by decide +kernel) rfl
theorem kX11_243 : Cond.methodLink RX11 243 yX11_allow ∈ zgood := zg_5 31 (by decide +kernel) rfl
theorem kX11_424 : Cond.classLink RX11 424 "java/lang/IllegalStateException" ∈ zgood := zg_5 34 (by decide +kernel) rfl
theorem kX11_426 : Cond.methodLink RX11 426 ⟨"java/lang/IllegalStateException", "<init>", "()V"⟩ ∈ zgood := zg_5 43 (by decide +kernel) rfl
theorem kX11_246 : Cond.methodLink RX11 246 yX0_lackingItems ∈ zgood := zg_5 49 (by decide +kernel) rfl
theorem kL_173 : Cond.methodLink RL 173 yL_hands ∈ zgood := zg_5 53 (by decide +kernel) rfl
theorem kL_55 : Cond.methodLink RL 55 yX11_hands ∈ zgood := zg_5 56 (by decide +kernel) rfl
theorem kX11_291 : Cond.methodLink RX11 291 yX11_checkDesk ∈ zgood := zg_5 60 (by decide +kernel) rfl
theorem kX11_294 : Cond.methodLink RX11 294 yX2_setHands ∈ zgood := zg_5 63 (by decide +kernel) rfl
theorem kL_177 : Cond.methodLink RL 177 yL_lend ∈ zgood := zg_5 67 (by decide +kernel) rfl
theorem kL_59 : Cond.methodLink RL 59 yX11_lend ∈ zgood := zg_5 70 (by decide +kernel) rfl
theorem kX11_301 : Cond.classLink RX11 301 "PassportOffice$Lent" ∈ zgood := zg_5 74 (by decide +kernel) rfl
theorem kX11_303 : Cond.methodLink RX11 303 yX4_init ∈ zgood := zg_5 76 (by decide +kernel) rfl
theorem kX4_1 : Cond.methodLink RX4 1 ⟨"java/lang/Object", "<init>", "()V"⟩ ∈ zgood := zg_5 79 (by decide +kernel) rfl
theorem kX4_7 : Cond.fieldLink RX4 7 "PassportOffice$Lent" "desk" "I" ∈ zgood := zg_5 80 (by decide +kernel) rfl
theorem kX2_30 : Cond.fieldLink RX2 30 "PassportOffice$Lent" "desk" "I" ∈ zgood := zg_5 81 (by decide +kernel) rfl
theorem kX4_13 : Cond.fieldLink RX4 13 "PassportOffice$Lent" "n" "I" ∈ zgood := zg_5 82 (by decide +kernel) rfl
theorem kX4_16 : Cond.fieldLink RX4 16 "PassportOffice$Lent" "from" "I" ∈ zgood := zg_5 83 (by decide +kernel) rfl
theorem kX4_19 : Cond.fieldLink RX4 19 "PassportOffice$Lent" "to" "I" ∈ zgood := zg_5 84 (by decide +kernel) rfl
theorem kX4_22 : Cond.fieldLink RX4 22 "PassportOffice$Lent" "training" "I" ∈ zgood := zg_5 85 (by decide +kernel) rfl
theorem kL_181 : Cond.methodLink RL 181 yL_units ∈ zgood := zg_5 97 (by decide +kernel) rfl
theorem kL_63 : Cond.methodLink RL 63 yX11_units ∈ zgood := zg_5 100 (by decide +kernel) rfl
theorem kX11_306 : Cond.methodLink RX11 306 yX2_unitsOn ∈ zgood := zg_5 104 (by decide +kernel) rfl
theorem kX2_20 : Cond.methodLink RX2 20 yJx4a65c_size_8abf5 ∈ zgood := zg_5 108 (by decide +kernel) rfl
theorem kX2_24 : Cond.methodLink RX2 24 yJx4a65c_get_915e3 ∈ zgood := zg_5 109 (by decide +kernel) rfl
theorem kX2_28 : Cond.classLink RX2 28 "PassportOffice$Lent" ∈ zgood := zg_5 110 (by decide +kernel) rfl
theorem kX2_34 : Cond.methodLink RX2 34 yX4_unitsOn ∈ zgood := zg_5 111 (by decide +kernel) rfl
theorem kX2_38 : Cond.methodLink RX2 38 yJ9_max_7cf53 ∈ zgood := zg_5 115 (by decide +kernel) rfl
theorem kL_184 : Cond.methodLink RL 184 yL_rules ∈ zgood := zg_5 116 (by decide +kernel) rfl
theorem kL_66 : Cond.methodLink RL 66 yX11_rules ∈ zgood := zg_5 119 (by decide +kernel) rfl
theorem kL_188 : Cond.methodLink RL 188 yL_order ∈ zgood := zg_5 123 (by decide +kernel) rfl
theorem kL_70 : Cond.methodLink RL 70 yX11_order ∈ zgood := zg_5 126 (by decide +kernel) rfl
theorem kX11_324 : Cond.methodLink RX11 324 yX11_isOrder ∈ zgood := zg_5 130 (by decide +kernel) rfl
theorem kL_192 : Cond.methodLink RL 192 yL_blanks ∈ zgood := zg_5 133 (by decide +kernel) rfl
theorem kL_74 : Cond.methodLink RL 74 yX11_blanks ∈ zgood := zg_5 136 (by decide +kernel) rfl
theorem kL_195 : Cond.methodLink RL 195 yL_broken ∈ zgood := zg_5 140 (by decide +kernel) rfl
theorem kL_77 : Cond.methodLink RL 77 yX11_broken ∈ zgood := zg_5 143 (by decide +kernel) rfl
theorem kL_198 : Cond.methodLink RL 198 yL_days ∈ zgood := zg_5 147 (by decide +kernel) rfl
theorem kL_80 : Cond.methodLink RL 80 yX11_days ∈ zgood := zg_5 150 (by decide +kernel) rfl
theorem kX11_339 : Cond.methodLink RX11 339 yX6_passDay ∈ zgood := zg_5 154 (by decide +kernel) rfl
theorem kX6_160 : Cond.methodLink RX6 160 yX6_takePost ∈ zgood := zg_5 158 (by decide +kernel) rfl
theorem kX6_173 : Cond.methodLink RX6 173 yX6_arrive ∈ zgood := zg_5 162 (by decide +kernel) rfl
theorem kX6_163 : Cond.methodLink RX6 163 yX6_countCalls ∈ zgood := zg_5 166 (by decide +kernel) rfl
theorem kX6_166 : Cond.methodLink RX6 166 yX6_workAt ∈ zgood := zg_5 170 (by decide +kernel) rfl
theorem kX6_181 : Cond.methodLink RX6 181 yX2_unitsOn ∈ zgood := zg_5 174 (by decide +kernel) rfl
theorem kX6_184 : Cond.methodLink RX6 184 yJ9_max_7cf53 ∈ zgood := zg_5 175 (by decide +kernel) rfl
theorem kX6_142 : Cond.fieldLink RX6 142 "PassportOffice$Desks" "STATE_AT" "[I" ∈ zgood := zg_5 176 (by decide +kernel) rfl
theorem kX6_187 : Cond.methodLink RX6 187 yX6_firstIn ∈ zgood := zg_5 178 (by decide +kernel) rfl
theorem kX6_136 : Cond.methodLink RX6 136 yX6_isAhead ∈ zgood := zg_5 182 (by decide +kernel) rfl
theorem kX6_150 : Cond.methodLink RX6 150 yX0_gaveTicket ∈ zgood := zg_5 186 (by decide +kernel) rfl
theorem kX6_191 : Cond.methodLink RX6 191 yX6_unitsFor ∈ zgood := zg_5 190 (by decide +kernel) rfl
theorem kX6_195 : Cond.methodLink RX6 195 yX6_canPrint ∈ zgood := zg_5 193 (by decide +kernel) rfl
theorem kX6_198 : Cond.methodLink RX6 198 yX6_serve ∈ zgood := zg_5 197 (by decide +kernel) rfl
theorem kX6_220 : Cond.methodLink RX6 220 yX6_read ∈ zgood := zg_5 201 (by decide +kernel) rfl
theorem kX6_228 : Cond.methodLink RX6 228 yX0_lackingItems ∈ zgood := zg_5 205 (by decide +kernel) rfl
theorem kX6_225 : Cond.methodLink RX6 225 yX6_print ∈ zgood := zg_5 206 (by decide +kernel) rfl
theorem kX6_255 : Cond.methodLink RX6 255 yX6_endValidOnes ∈ zgood := zg_5 210 (by decide +kernel) rfl
theorem kX6_90 : Cond.methodLink RX6 90 yX6_newBooklet ∈ zgood := zg_5 214 (by decide +kernel) rfl
theorem kX1_3 : Cond.methodLink RX1 3 ⟨"java/lang/Object", "<init>", "()V"⟩ ∈ zgood := zg_5 222 (by decide +kernel) rfl
theorem kX1_9 : Cond.fieldLink RX1 9 "PassportOffice$Booklet" "person" "I" ∈ zgood := zg_5 223 (by decide +kernel) rfl
theorem kX6_117 : Cond.fieldLink RX6 117 "PassportOffice$Booklet" "person" "I" ∈ zgood := zg_5 224 (by decide +kernel) rfl
theorem kX11_360 : Cond.fieldLink RX11 360 "PassportOffice$Booklet" "person" "I" ∈ zgood := zg_5 225 (by decide +kernel) rfl
theorem kX1_15 : Cond.fieldLink RX1 15 "PassportOffice$Booklet" "first" "I" ∈ zgood := zg_5 226 (by decide +kernel) rfl
theorem kX6_262 : Cond.fieldLink RX6 262 "PassportOffice$Booklet" "first" "I" ∈ zgood := zg_5 227 (by decide +kernel) rfl
theorem kX11_364 : Cond.fieldLink RX11 364 "PassportOffice$Booklet" "first" "I" ∈ zgood := zg_5 228 (by decide +kernel) rfl
theorem kX1_18 : Cond.fieldLink RX1 18 "PassportOffice$Booklet" "end" "I" ∈ zgood := zg_5 229 (by decide +kernel) rfl
theorem kX6_129 : Cond.fieldLink RX6 129 "PassportOffice$Booklet" "end" "I" ∈ zgood := zg_5 230 (by decide +kernel) rfl
theorem kX11_367 : Cond.fieldLink RX11 367 "PassportOffice$Booklet" "end" "I" ∈ zgood := zg_5 231 (by decide +kernel) rfl
theorem kX1_21 : Cond.fieldLink RX1 21 "PassportOffice$Booklet" "asking" "I" ∈ zgood := zg_5 232 (by decide +kernel) rfl
theorem kX6_268 : Cond.fieldLink RX6 268 "PassportOffice$Booklet" "asking" "I" ∈ zgood := zg_5 233 (by decide +kernel) rfl
theorem kX11_370 : Cond.fieldLink RX11 370 "PassportOffice$Booklet" "asking" "I" ∈ zgood := zg_5 234 (by decide +kernel) rfl
theorem kX6_82 : Cond.methodLink RX6 82 yJx4a65c_add_9ea2d ∈ zgood := zg_6 4 (by decide +kernel) rfl
theorem kX6_100 : Cond.methodLink RX6 100 yJ9_min_7cf53 ∈ zgood := zg_6 5 (by decide +kernel) rfl
theorem kX6_265 : Cond.methodLink RX6 265 yX10_validYears ∈ zgood := zg_6 6 (by decide +kernel) rfl
theorem kL_201 : Cond.methodLink RL 201 yL_refuse ∈ zgood := zg_6 7 (by decide +kernel) rfl
theorem kL_83 : Cond.methodLink RL 83 yX11_refuse ∈ zgood := zg_6 10 (by decide +kernel) rfl
theorem kX11_249 : Cond.methodLink RX11 249 yX0_isOpen ∈ zgood := zg_6 14 (by decide +kernel) rfl
theorem kL_204 : Cond.methodLink RL 204 yL_lose ∈ zgood := zg_6 15 (by decide +kernel) rfl
theorem kL_86 : Cond.methodLink RL 86 yX11_lose ∈ zgood := zg_6 18 (by decide +kernel) rfl
theorem kX11_256 : Cond.methodLink RX11 256 yX6_endBooklet ∈ zgood := zg_6 22 (by decide +kernel) rfl
theorem kL_207 : Cond.methodLink RL 207 yL_again ∈ zgood := zg_6 26 (by decide +kernel) rfl
theorem kL_89 : Cond.methodLink RL 89 yX11_again ∈ zgood := zg_6 29 (by decide +kernel) rfl
theorem kL_210 : Cond.methodLink RL 210 yL_led ∈ zgood := zg_6 33 (by decide +kernel) rfl
theorem kL_92 : Cond.methodLink RL 92 yX11_led ∈ zgood := zg_6 36 (by decide +kernel) rfl
theorem kL_213 : Cond.methodLink RL 213 yL_queue ∈ zgood := zg_6 40 (by decide +kernel) rfl
theorem kL_95 : Cond.methodLink RL 95 yX11_queue ∈ zgood := zg_6 43 (by decide +kernel) rfl
theorem kX11_342 : Cond.fieldLink RX11 342 "PassportOffice$Desks" "STATE_AT" "[I" ∈ zgood := zg_6 47 (by decide +kernel) rfl
theorem kL_216 : Cond.methodLink RL 216 yL_ahead ∈ zgood := zg_6 48 (by decide +kernel) rfl
theorem kL_98 : Cond.methodLink RL 98 yX11_ahead ∈ zgood := zg_6 51 (by decide +kernel) rfl
theorem kX11_349 : Cond.methodLink RX11 349 yX6_countAhead ∈ zgood := zg_6 55 (by decide +kernel) rfl
theorem kX6_132 : Cond.methodLink RX6 132 yX6_deskOf ∈ zgood := zg_6 59 (by decide +kernel) rfl
theorem kL_219 : Cond.methodLink RL 219 yL_booklet ∈ zgood := zg_6 62 (by decide +kernel) rfl
theorem kL_101 : Cond.methodLink RL 101 yX11_booklet ∈ zgood := zg_6 65 (by decide +kernel) rfl
theorem kX11_353 : Cond.methodLink RX11 353 yX6_bookletAt ∈ zgood := zg_6 69 (by decide +kernel) rfl
theorem kL_222 : Cond.methodLink RL 222 yL_valid ∈ zgood := zg_6 70 (by decide +kernel) rfl
theorem kL_104 : Cond.methodLink RL 104 yX11_valid ∈ zgood := zg_6 73 (by decide +kernel) rfl
theorem kL_225 : Cond.methodLink RL 225 yL_missed ∈ zgood := zg_6 77 (by decide +kernel) rfl
theorem kL_107 : Cond.methodLink RL 107 yX11_missed ∈ zgood := zg_6 80 (by decide +kernel) rfl
theorem kX11_373 : Cond.methodLink RX11 373 yX6_copyFrom ∈ zgood := zg_6 84 (by decide +kernel) rfl
theorem kX6_61 : Cond.methodLink RX6 61 yX6_copyAskings ∈ zgood := zg_6 88 (by decide +kernel) rfl
theorem kX6_78 : Cond.methodLink RX6 78 yX0_twin ∈ zgood := zg_6 92 (by decide +kernel) rfl
theorem kX0_9 : Cond.classLink RX0 9 "PassportOffice$Asking" ∈ zgood := zg_6 96 (by decide +kernel) rfl
theorem kX0_60 : Cond.methodLink RX0 60 yX0_init ∈ zgood := zg_6 97 (by decide +kernel) rfl
theorem kX6_86 : Cond.methodLink RX6 86 yX0_copyFrom ∈ zgood := zg_6 98 (by decide +kernel) rfl
theorem kX6_65 : Cond.methodLink RX6 65 yX6_copyBooklets ∈ zgood := zg_6 102 (by decide +kernel) rfl
theorem kX6_96 : Cond.methodLink RX6 96 yX1_copyFrom ∈ zgood := zg_6 106 (by decide +kernel) rfl
theorem kX11_377 : Cond.methodLink RX11 377 yX0_isGotInTime ∈ zgood := zg_6 110 (by decide +kernel) rfl
theorem kL_228 : Cond.methodLink RL 228 yL_waits ∈ zgood := zg_6 114 (by decide +kernel) rfl
theorem kL_110 : Cond.methodLink RL 110 yX11_waits ∈ zgood := zg_6 117 (by decide +kernel) rfl
theorem kX11_380 : Cond.methodLink RX11 380 yX11_latestWaits ∈ zgood := zg_6 121 (by decide +kernel) rfl
theorem kX11_384 : Cond.methodLink RX11 384 yX0_waitedDays ∈ zgood := zg_6 125 (by decide +kernel) rfl
theorem kX11_387 : Cond.methodLink RX11 387 yX11_sort ∈ zgood := zg_6 129 (by decide +kernel) rfl
theorem kX11_391 : Cond.methodLink RX11 391 yJ9_max_7cf53 ∈ zgood := zg_6 132 (by decide +kernel) rfl
theorem kX11_396 : Cond.methodLink RX11 396 yJ7_copyOfRange_feecc ∈ zgood := zg_6 133 (by decide +kernel) rfl
theorem kJ7_351 : Cond.methodLink RJ7 351 yJ7_copyOfRangeInt_feecc ∈ zgood := zg_6 136 (by decide +kernel) rfl
theorem kJ7_343 : Cond.methodLink RJ7 343 yJ7_checkLength_df160 ∈ zgood := zg_6 139 (by decide +kernel) rfl
theorem kJ7_43 : Cond.classLink RJ7 43 "java/lang/IllegalArgumentException" ∈ zgood := zg_6 142 (by decide +kernel) rfl
theorem kJ7_45 : Cond.classLink RJ7 45 "java/lang/StringBuilder" ∈ zgood := zg_6 143 (by decide +kernel) rfl
theorem kJ7_47 : Cond.methodLink RJ7 47 yJ4_init_da8c8 ∈ zgood := zg_6 145 (by decide +kernel) rfl
theorem kJ4_1 : Cond.methodLink RJ4 1 yJ5_init_d00df ∈ zgood := zg_6 148 (by decide +kernel) rfl
theorem kJ5_3 : Cond.methodLink RJ5 3 ⟨"java/lang/Object", "<init>", "()V"⟩ ∈ zgood := zg_6 151 (by decide +kernel) rfl
theorem kJ5_18 : Cond.fieldLink RJ5 18 "java/lang/String" "COMPACT_STRINGS" "Z" ∈ zgood := zg_6 152 (by decide +kernel) rfl
theorem kJ5_26 : Cond.methodLink RJ5 26 yJ2_newBytesFor_77867 ∈ zgood := zg_6 153 (by decide +kernel) rfl
theorem kJ2_11 : Cond.methodLink RJ2 11 yJ2_newBytesLength_0f7a4 ∈ zgood := zg_6 156 (by decide +kernel) rfl
theorem kJ2_20 : Cond.constant RJ2 20 (1073741823) ∈ zgood := zg_6 159 (by decide +kernel) rfl
theorem kJ5_15 : Cond.fieldLink RJ5 15 "java/lang/AbstractStringBuilder" "value" "[B" ∈ zgood := zg_6 160 (by decide +kernel) rfl
theorem kJ5_22 : Cond.fieldLink RJ5 22 "java/lang/AbstractStringBuilder" "coder" "B" ∈ zgood := zg_6 161 (by decide +kernel) rfl
theorem kJ0_1048 : Cond.fieldLink RJ0 1048 "java/lang/AbstractStringBuilder" "maybeLatin1" "Z" ∈ zgood := zg_6 162 (by decide +kernel) rfl
theorem kJ5_79 : Cond.fieldLink RJ5 79 "java/lang/AbstractStringBuilder" "count" "I" ∈ zgood := zg_6 163 (by decide +kernel) rfl
theorem kJ7_54 : Cond.methodLink RJ7 54 yJ4_append_bf812 ∈ zgood := zg_6 173 (by decide +kernel) rfl
theorem kJ4_53 : Cond.methodLink RJ4 53 yJ5_append_c97b9 ∈ zgood := zg_6 177 (by decide +kernel) rfl
theorem kJ5_245 : Cond.methodLink RJ5 245 yJ6_stringSize_0f7a4 ∈ zgood := zg_6 180 (by decide +kernel) rfl
theorem kJ5_100 : Cond.methodLink RJ5 100 yJ5_ensureCapacityInternal_d00df ∈ zgood := zg_6 183 (by decide +kernel) rfl
theorem kJ5_104 : Cond.methodLink RJ5 104 yJ5_newCapacity_0f7a4 ∈ zgood := zg_6 187 (by decide +kernel) rfl
theorem kJ5_114 : Cond.methodLink RJ5 114 yJ8_newLength_cabcc ∈ zgood := zg_6 191 (by decide +kernel) rfl
theorem kJ5_39 : Cond.constant RJ5 39 (2147483647) ∈ zgood := zg_6 192 (by decide +kernel) rfl
theorem kJ5_108 : Cond.methodLink RJ5 108 yJ7_copyOf_9075b ∈ zgood := zg_6 193 (by decide +kernel) rfl
theorem kJ7_310 : Cond.methodLink RJ7 310 ⟨"[B", "clone", "()Ljava/lang/Object;"⟩ ∈ zgood := zg_6 196 (by decide +kernel) rfl
theorem kJ7_311 : Cond.classLink RJ7 311 "[B" ∈ zgood := zg_6 200 (by decide +kernel) rfl
theorem kJ5_83 : Cond.methodLink RJ5 83 yJ5_isLatin1_aae02 ∈ zgood := zg_6 201 (by decide +kernel) rfl
theorem kJ5_248 : Cond.methodLink RJ5 248 yJ6_getChars_ba4f3 ∈ zgood := zg_6 206 (by decide +kernel) rfl
theorem kJ6_83 : Cond.fieldLink RJ6 83 "java/lang/Integer" "DigitOnes" "[B" ∈ zgood := zg_6 209 (by decide +kernel) rfl
theorem kJ6_87 : Cond.fieldLink RJ6 87 "java/lang/Integer" "DigitTens" "[B" ∈ zgood := zg_6 211 (by decide +kernel) rfl
theorem kJ5_251 : Cond.methodLink RJ5 251 yJ2_getChars_46870 ∈ zgood := zg_6 213 (by decide +kernel) rfl
theorem kJ2_96 : Cond.methodLink RJ2 96 yJ2_checkBoundsBeginEnd_d044e ∈ zgood := zg_6 216 (by decide +kernel) rfl
theorem kJ2_241 : Cond.methodLink RJ2 241 yJ0_checkBoundsBeginEnd_23922 ∈ zgood := zg_6 219 (by decide +kernel) rfl
theorem kJ0_1062 : Cond.methodLink RJ0 1062 yJ3_checkFromToIndex_8c36e ∈ zgood := zg_6 222 (by decide +kernel) rfl
theorem kJ2_393 : Cond.methodLink RJ2 393 yJ2_getChars_ba4f3 ∈ zgood := zg_6 225 (by decide +kernel) rfl
theorem kJ2_403 : Cond.fieldLink RJ2 403 "java/lang/Integer" "DigitOnes" "[B" ∈ zgood := zg_6 228 (by decide +kernel) rfl
theorem kJ2_111 : Cond.methodLink RJ2 111 yJ2_putChar_b72d1 ∈ zgood := zg_6 229 (by decide +kernel) rfl
theorem kJ2_407 : Cond.fieldLink RJ2 407 "java/lang/Integer" "DigitTens" "[B" ∈ zgood := zg_6 232 (by decide +kernel) rfl
theorem kJ7_50 : Cond.methodLink RJ7 50 yJ4_append_15ec4 ∈ zgood := zg_6 234 (by decide +kernel) rfl
theorem kJ4_29 : Cond.methodLink RJ4 29 yJ5_append_cf1ce ∈ zgood := zg_6 238 (by decide +kernel) rfl
theorem kJ5_204 : Cond.methodLink RJ5 204 yJ5_appendNull_278bc ∈ zgood := zg_7 1 (by decide +kernel) rfl
theorem kJ5_226 : Cond.methodLink RJ5 226 yJ2_putCharsAt_cd4e5 ∈ zgood := zg_7 5 (by decide +kernel) rfl
theorem kJ5_32 : Cond.methodLink RJ5 32 yJ0_length_8abf5 ∈ zgood := zg_7 8 (by decide +kernel) rfl
theorem kJ5_208 : Cond.methodLink RJ5 208 yJ5_putStringAt_47b60 ∈ zgood := zg_7 9 (by decide +kernel) rfl
theorem kJ5_397 : Cond.methodLink RJ5 397 yJ5_inflateIfNeededFor_a7421 ∈ zgood := zg_7 13 (by decide +kernel) rfl
theorem kJ5_40 : Cond.methodLink RJ5 40 yJ0_coder_7d493 ∈ zgood := zg_7 17 (by decide +kernel) rfl
theorem kJ5_195 : Cond.methodLink RJ5 195 yJ5_inflate_da8c8 ∈ zgood := zg_7 18 (by decide +kernel) rfl
theorem kJ5_125 : Cond.methodLink RJ5 125 yJ1_inflate_0e8fd ∈ zgood := zg_7 22 (by decide +kernel) rfl
theorem kJ1_240 : Cond.methodLink RJ1 240 yJ2_inflate_0e8fd ∈ zgood := zg_7 25 (by decide +kernel) rfl
theorem kJ2_173 : Cond.methodLink RJ2 173 yJ2_checkBoundsOffCount_d044e ∈ zgood := zg_7 28 (by decide +kernel) rfl
theorem kJ2_419 : Cond.methodLink RJ2 419 yJ0_checkBoundsOffCount_cabcc ∈ zgood := zg_7 31 (by decide +kernel) rfl
theorem kJ0_1065 : Cond.methodLink RJ0 1065 yJ3_checkFromIndexSize_8c36e ∈ zgood := zg_7 34 (by decide +kernel) rfl
theorem kJ5_399 : Cond.methodLink RJ5 399 yJ0_getBytes_840e7 ∈ zgood := zg_7 37 (by decide +kernel) rfl
theorem kJ0_212 : Cond.methodLink RJ0 212 ⟨"java/lang/System", "arraycopy", "(Ljava/lang/Object;ILjava/lang/Object;II)V"⟩ ∈ zgood := zg_7 41 (by decide +kernel) rfl
theorem kJ0_106 : Cond.methodLink RJ0 106 yJ1_inflate_0e8fd ∈ zgood := zg_7 42 (by decide +kernel) rfl
theorem kJ7_61 : Cond.methodLink RJ7 61 yJ4_toString_0e30d ∈ zgood := zg_7 43 (by decide +kernel) rfl
theorem kJ4_18 : Cond.classLink RJ4 18 "java/lang/String" ∈ zgood := zg_7 47 (by decide +kernel) rfl
theorem kJ4_137 : Cond.methodLink RJ4 137 yJ0_init_81219 ∈ zgood := zg_7 49 (by decide +kernel) rfl
theorem kJ0_489 : Cond.methodLink RJ0 489 yJ0_init_db425 ∈ zgood := zg_7 52 (by decide +kernel) rfl
theorem kJ0_1 : Cond.methodLink RJ0 1 ⟨"java/lang/Object", "<init>", "()V"⟩ ∈ zgood := zg_7 55 (by decide +kernel) rfl
theorem kJ0_552 : Cond.methodLink RJ0 552 yJ5_getValue_6d5f1 ∈ zgood := zg_7 56 (by decide +kernel) rfl
theorem kJ0_549 : Cond.methodLink RJ0 549 yJ5_length_8abf5 ∈ zgood := zg_7 61 (by decide +kernel) rfl
theorem kJ4_343 : Cond.methodLink RJ4 343 yJ5_length_8abf5 ∈ zgood := zg_7 67 (by decide +kernel) rfl
theorem kJ0_1047 : Cond.methodLink RJ0 1047 yJ5_isLatin1_aae02 ∈ zgood := zg_7 69 (by decide +kernel) rfl
theorem kJ0_54 : Cond.methodLink RJ0 54 yJ7_copyOfRange_39247 ∈ zgood := zg_7 70 (by decide +kernel) rfl
theorem kJ7_339 : Cond.methodLink RJ7 339 yJ7_copyOfRangeByte_39247 ∈ zgood := zg_7 73 (by decide +kernel) rfl
theorem kJ0_1051 : Cond.methodLink RJ0 1051 yJ2_compress_39247 ∈ zgood := zg_7 76 (by decide +kernel) rfl
theorem kJ2_123 : Cond.methodLink RJ2 123 yJ2_compress_5af95 ∈ zgood := zg_7 79 (by decide +kernel) rfl
theorem kJ2_126 : Cond.methodLink RJ2 126 yJ7_copyOfRange_39247 ∈ zgood := zg_7 82 (by decide +kernel) rfl
theorem kJ0_47 : Cond.methodLink RJ0 47 yJ2_coderFromArrayLen_85cad ∈ zgood := zg_7 83 (by decide +kernel) rfl
theorem kJ0_9 : Cond.fieldLink RJ0 9 "java/lang/String" "value" "[B" ∈ zgood := zg_7 86 (by decide +kernel) rfl
theorem kJ0_15 : Cond.fieldLink RJ0 15 "java/lang/String" "coder" "B" ∈ zgood := zg_7 87 (by decide +kernel) rfl
theorem kJ7_65 : Cond.methodLink RJ7 65 ⟨"java/lang/IllegalArgumentException", "<init>", "(Ljava/lang/String;)V"⟩ ∈ zgood := zg_7 97 (by decide +kernel) rfl
theorem kL_115 : Cond.classLink RL 115 "PassportOfficeModel" ∈ zgood := zg_7 109 (by decide +kernel) rfl
theorem kL_117 : Cond.methodLink RL 117 yX12_init ∈ zgood := zg_7 111 (by decide +kernel) rfl
theorem kX12_3 : Cond.methodLink RX12 3 ⟨"java/lang/Object", "<init>", "()V"⟩ ∈ zgood := zg_7 114 (by decide +kernel) rfl
theorem kX12_178 : Cond.fieldLink RX12 178 "PassportOfficeModel" "thrown" "I" ∈ zgood := zg_7 115 (by decide +kernel) rfl
theorem kX12_314 : Cond.fieldLink RX12 314 "PassportOfficeModel" "today" "I" ∈ zgood := zg_7 116 (by decide +kernel) rfl
theorem kX12_9 : Cond.fieldLink RX12 9 "PassportOfficeModel" "tape" "[B" ∈ zgood := zg_7 117 (by decide +kernel) rfl
theorem kX12_181 : Cond.fieldLink RX12 181 "PassportOfficeModel" "taped" "I" ∈ zgood := zg_7 118 (by decide +kernel) rfl
theorem kX12_187 : Cond.fieldLink RX12 187 "PassportOfficeModel" "point" "I" ∈ zgood := zg_7 119 (by decide +kernel) rfl
theorem kX12_184 : Cond.fieldLink RX12 184 "PassportOfficeModel" "end" "I" ∈ zgood := zg_7 120 (by decide +kernel) rfl
theorem kX12_194 : Cond.fieldLink RX12 194 "PassportOfficeModel" "begin" "I" ∈ zgood := zg_7 121 (by decide +kernel) rfl
theorem kX12_258 : Cond.fieldLink RX12 258 "PassportOfficeModel" "deep" "I" ∈ zgood := zg_7 122 (by decide +kernel) rfl
theorem kX12_13 : Cond.fieldLink RX12 13 "PassportOfficeModel" "faultAt" "I" ∈ zgood := zg_7 123 (by decide +kernel) rfl
theorem kX12_17 : Cond.fieldLink RX12 17 "PassportOfficeModel" "five" "[I" ∈ zgood := zg_7 124 (by decide +kernel) rfl
theorem kX12_21 : Cond.fieldLink RX12 21 "PassportOfficeModel" "lawFrom" "[I" ∈ zgood := zg_7 125 (by decide +kernel) rfl
theorem kX12_24 : Cond.fieldLink RX12 24 "PassportOfficeModel" "clauses" "[I" ∈ zgood := zg_7 126 (by decide +kernel) rfl
theorem kX12_27 : Cond.fieldLink RX12 27 "PassportOfficeModel" "cSort" "[I" ∈ zgood := zg_7 127 (by decide +kernel) rfl
theorem kX12_30 : Cond.fieldLink RX12 30 "PassportOfficeModel" "cNumber" "[I" ∈ zgood := zg_7 128 (by decide +kernel) rfl
theorem kX12_33 : Cond.fieldLink RX12 33 "PassportOfficeModel" "cBegin" "[I" ∈ zgood := zg_7 129 (by decide +kernel) rfl
theorem kX12_36 : Cond.fieldLink RX12 36 "PassportOfficeModel" "cEnd" "[I" ∈ zgood := zg_7 130 (by decide +kernel) rfl
theorem kX12_39 : Cond.fieldLink RX12 39 "PassportOfficeModel" "step" "[I" ∈ zgood := zg_7 131 (by decide +kernel) rfl
theorem kX12_42 : Cond.fieldLink RX12 42 "PassportOfficeModel" "how" "[I" ∈ zgood := zg_7 132 (by decide +kernel) rfl
theorem kX12_45 : Cond.fieldLink RX12 45 "PassportOfficeModel" "than" "[I" ∈ zgood := zg_7 133 (by decide +kernel) rfl
theorem kX12_328 : Cond.fieldLink RX12 328 "PassportOfficeModel" "laws" "I" ∈ zgood := zg_7 134 (by decide +kernel) rfl
theorem kX12_217 : Cond.fieldLink RX12 217 "PassportOfficeModel" "steps" "I" ∈ zgood := zg_7 135 (by decide +kernel) rfl
theorem kX12_48 : Cond.fieldLink RX12 48 "PassportOfficeModel" "facts" "[I" ∈ zgood := zg_7 136 (by decide +kernel) rfl
theorem kX12_51 : Cond.fieldLink RX12 51 "PassportOfficeModel" "met" "[Z" ∈ zgood := zg_7 137 (by decide +kernel) rfl
theorem kX12_340 : Cond.fieldLink RX12 340 "PassportOfficeModel" "jNeeds" "I" ∈ zgood := zg_7 138 (by decide +kernel) rfl
theorem kX12_343 : Cond.fieldLink RX12 343 "PassportOfficeModel" "jFee" "I" ∈ zgood := zg_7 139 (by decide +kernel) rfl
theorem kX12_346 : Cond.fieldLink RX12 346 "PassportOfficeModel" "jYears" "I" ∈ zgood := zg_7 140 (by decide +kernel) rfl
theorem kX12_349 : Cond.fieldLink RX12 349 "PassportOfficeModel" "jRisk" "I" ∈ zgood := zg_7 141 (by decide +kernel) rfl
theorem kX12_352 : Cond.fieldLink RX12 352 "PassportOfficeModel" "jBack" "I" ∈ zgood := zg_7 142 (by decide +kernel) rfl
theorem kX12_355 : Cond.fieldLink RX12 355 "PassportOfficeModel" "jSee" "Z" ∈ zgood := zg_7 143 (by decide +kernel) rfl
theorem kX12_55 : Cond.fieldLink RX12 55 "PassportOfficeModel" "born" "[I" ∈ zgood := zg_7 144 (by decide +kernel) rfl
theorem kX12_58 : Cond.fieldLink RX12 58 "PassportOfficeModel" "isAbroad" "[Z" ∈ zgood := zg_7 145 (by decide +kernel) rfl
theorem kX12_61 : Cond.fieldLink RX12 61 "PassportOfficeModel" "face" "[I" ∈ zgood := zg_7 146 (by decide +kernel) rfl
theorem kX12_64 : Cond.fieldLink RX12 64 "PassportOfficeModel" "turned" "[I" ∈ zgood := zg_7 147 (by decide +kernel) rfl
theorem kX12_67 : Cond.fieldLink RX12 67 "PassportOfficeModel" "hasName" "[Z" ∈ zgood := zg_7 148 (by decide +kernel) rfl
theorem kX12_372 : Cond.fieldLink RX12 372 "PassportOfficeModel" "people" "I" ∈ zgood := zg_7 149 (by decide +kernel) rfl
theorem kX12_70 : Cond.fieldLink RX12 70 "PassportOfficeModel" "told" "[I" ∈ zgood := zg_7 150 (by decide +kernel) rfl
theorem kX12_73 : Cond.fieldLink RX12 73 "PassportOfficeModel" "draftName" "[I" ∈ zgood := zg_7 151 (by decide +kernel) rfl
theorem kX12_76 : Cond.fieldLink RX12 76 "PassportOfficeModel" "patience" "I" ∈ zgood := zg_7 152 (by decide +kernel) rfl
theorem kX12_79 : Cond.fieldLink RX12 79 "PassportOfficeModel" "limit" "I" ∈ zgood := zg_7 153 (by decide +kernel) rfl
theorem kX12_82 : Cond.fieldLink RX12 82 "PassportOfficeModel" "doubt" "I" ∈ zgood := zg_7 154 (by decide +kernel) rfl
theorem kX12_85 : Cond.fieldLink RX12 85 "PassportOfficeModel" "home" "I" ∈ zgood := zg_7 155 (by decide +kernel) rfl
theorem kX12_88 : Cond.fieldLink RX12 88 "PassportOfficeModel" "away" "I" ∈ zgood := zg_7 156 (by decide +kernel) rfl
theorem kX12_403 : Cond.fieldLink RX12 403 "PassportOfficeModel" "rule" "I" ∈ zgood := zg_7 157 (by decide +kernel) rfl
theorem kX12_406 : Cond.fieldLink RX12 406 "PassportOfficeModel" "blank" "I" ∈ zgood := zg_7 158 (by decide +kernel) rfl
theorem kX12_91 : Cond.fieldLink RX12 91 "PassportOfficeModel" "brokenFrom" "I" ∈ zgood := zg_7 159 (by decide +kernel) rfl
theorem kX12_409 : Cond.fieldLink RX12 409 "PassportOfficeModel" "brokenTo" "I" ∈ zgood := zg_7 160 (by decide +kernel) rfl
theorem kX12_94 : Cond.fieldLink RX12 94 "PassportOfficeModel" "hands" "[I" ∈ zgood := zg_7 161 (by decide +kernel) rfl
theorem kX12_97 : Cond.fieldLink RX12 97 "PassportOfficeModel" "lDesk" "[I" ∈ zgood := zg_7 162 (by decide +kernel) rfl
theorem kX12_100 : Cond.fieldLink RX12 100 "PassportOfficeModel" "lMany" "[I" ∈ zgood := zg_7 163 (by decide +kernel) rfl
theorem kX12_103 : Cond.fieldLink RX12 103 "PassportOfficeModel" "lFrom" "[I" ∈ zgood := zg_7 164 (by decide +kernel) rfl
theorem kX12_106 : Cond.fieldLink RX12 106 "PassportOfficeModel" "lTo" "[I" ∈ zgood := zg_7 165 (by decide +kernel) rfl
theorem kX12_109 : Cond.fieldLink RX12 109 "PassportOfficeModel" "lTraining" "[I" ∈ zgood := zg_7 166 (by decide +kernel) rfl
theorem kX12_397 : Cond.fieldLink RX12 397 "PassportOfficeModel" "lent" "I" ∈ zgood := zg_7 167 (by decide +kernel) rfl
theorem kX12_112 : Cond.fieldLink RX12 112 "PassportOfficeModel" "aPerson" "[I" ∈ zgood := zg_7 168 (by decide +kernel) rfl
theorem kX12_115 : Cond.fieldLink RX12 115 "PassportOfficeModel" "aKind" "[I" ∈ zgood := zg_7 169 (by decide +kernel) rfl
theorem kX12_118 : Cond.fieldLink RX12 118 "PassportOfficeModel" "aCame" "[I" ∈ zgood := zg_7 170 (by decide +kernel) rfl
theorem kX12_121 : Cond.fieldLink RX12 121 "PassportOfficeModel" "aWanted" "[I" ∈ zgood := zg_7 171 (by decide +kernel) rfl
theorem kX12_124 : Cond.fieldLink RX12 124 "PassportOfficeModel" "aItems" "[I" ∈ zgood := zg_7 172 (by decide +kernel) rfl
theorem kX12_127 : Cond.fieldLink RX12 127 "PassportOfficeModel" "aUrgent" "[Z" ∈ zgood := zg_7 173 (by decide +kernel) rfl
theorem kX12_130 : Cond.fieldLink RX12 130 "PassportOfficeModel" "aNeeds" "[I" ∈ zgood := zg_7 174 (by decide +kernel) rfl
theorem kX12_133 : Cond.fieldLink RX12 133 "PassportOfficeModel" "aFee" "[I" ∈ zgood := zg_7 175 (by decide +kernel) rfl
theorem kX12_136 : Cond.fieldLink RX12 136 "PassportOfficeModel" "aYears" "[I" ∈ zgood := zg_7 176 (by decide +kernel) rfl
theorem kX12_139 : Cond.fieldLink RX12 139 "PassportOfficeModel" "aRisk" "[I" ∈ zgood := zg_7 177 (by decide +kernel) rfl
theorem kX12_142 : Cond.fieldLink RX12 142 "PassportOfficeModel" "aSee" "[Z" ∈ zgood := zg_7 178 (by decide +kernel) rfl
theorem kX12_145 : Cond.fieldLink RX12 145 "PassportOfficeModel" "aBack" "[I" ∈ zgood := zg_7 179 (by decide +kernel) rfl
theorem kX12_148 : Cond.fieldLink RX12 148 "PassportOfficeModel" "goes" "[I" ∈ zgood := zg_7 180 (by decide +kernel) rfl
theorem kX12_412 : Cond.fieldLink RX12 412 "PassportOfficeModel" "askings" "I" ∈ zgood := zg_7 181 (by decide +kernel) rfl
theorem kX12_151 : Cond.fieldLink RX12 151 "PassportOfficeModel" "bPerson" "[I" ∈ zgood := zg_7 182 (by decide +kernel) rfl
theorem kX12_154 : Cond.fieldLink RX12 154 "PassportOfficeModel" "bFirst" "[I" ∈ zgood := zg_7 183 (by decide +kernel) rfl
theorem kX12_157 : Cond.fieldLink RX12 157 "PassportOfficeModel" "bEnd" "[I" ∈ zgood := zg_7 184 (by decide +kernel) rfl
theorem kX12_160 : Cond.fieldLink RX12 160 "PassportOfficeModel" "bAsking" "[I" ∈ zgood := zg_7 185 (by decide +kernel) rfl
theorem kX12_415 : Cond.fieldLink RX12 415 "PassportOfficeModel" "booklets" "I" ∈ zgood := zg_7 186 (by decide +kernel) rfl
theorem kX12_428 : Cond.fieldLink RX12 428 "PassportOfficeModel" "taken" "I" ∈ zgood := zg_7 187 (by decide +kernel) rfl
theorem kX12_456 : Cond.fieldLink RX12 456 "PassportOfficeModel" "given" "I" ∈ zgood := zg_7 188 (by decide +kernel) rfl
theorem kX12_465 : Cond.fieldLink RX12 465 "PassportOfficeModel" "calls" "I" ∈ zgood := zg_7 189 (by decide +kernel) rfl
theorem kX12_484 : Cond.fieldLink RX12 484 "PassportOfficeModel" "allCalls" "I" ∈ zgood := zg_7 190 (by decide +kernel) rfl
theorem kX12_481 : Cond.fieldLink RX12 481 "PassportOfficeModel" "left" "I" ∈ zgood := zg_7 191 (by decide +kernel) rfl
theorem kX12_163 : Cond.fieldLink RX12 163 "PassportOfficeModel" "row" "[I" ∈ zgood := zg_7 192 (by decide +kernel) rfl
theorem kX12_447 : Cond.fieldLink RX12 447 "PassportOfficeModel" "waiting" "I" ∈ zgood := zg_7 193 (by decide +kernel) rfl
theorem kX12_166 : Cond.fieldLink RX12 166 "PassportOfficeModel" "keptGoes" "[I" ∈ zgood := zg_7 194 (by decide +kernel) rfl
theorem kX12_169 : Cond.fieldLink RX12 169 "PassportOfficeModel" "keptEnd" "[I" ∈ zgood := zg_7 195 (by decide +kernel) rfl
theorem kX12_172 : Cond.fieldLink RX12 172 "PassportOfficeModel" "wait" "[I" ∈ zgood := zg_7 196 (by decide +kernel) rfl
theorem kX12_175 : Cond.fieldLink RX12 175 "PassportOfficeModel" "lastOnes" "[I" ∈ zgood := zg_7 197 (by decide +kernel) rfl
theorem kL_133 : Cond.methodLink RL 133 yX12_thrown ∈ zgood := zg_8 126 (by decide +kernel) rfl
theorem kL_121 : Cond.methodLink RL 121 yX12_feed ∈ zgood := zg_8 130 (by decide +kernel) rfl
theorem kL_126 : Cond.methodLink RL 126 yX12_end ∈ zgood := zg_8 134 (by decide +kernel) rfl
theorem kL_140 : Cond.methodLink RL 140 yX12_fault ∈ zgood := zg_8 138 (by decide +kernel) rfl
theorem kL_132 : Cond.methodLink RL 132 yX12_law ∈ zgood := zg_8 142 (by decide +kernel) rfl
theorem kX12_311 : Cond.methodLink RX12 311 yX12_uses ∈ zgood := zg_8 146 (by decide +kernel) rfl
theorem kX12_317 : Cond.methodLink RX12 317 yX12_in ∈ zgood := zg_8 150 (by decide +kernel) rfl
theorem kX12_321 : Cond.methodLink RX12 321 yX12_throwsIf ∈ zgood := zg_8 153 (by decide +kernel) rfl
theorem kX12_325 : Cond.methodLink RX12 325 yX12_readLaw ∈ zgood := zg_8 157 (by decide +kernel) rfl
theorem kX12_197 : Cond.methodLink RX12 197 yX12_blanksBetween ∈ zgood := zg_8 161 (by decide +kernel) rfl
theorem kX12_190 : Cond.methodLink RX12 190 yX12_isAt ∈ zgood := zg_8 165 (by decide +kernel) rfl
theorem kX12_308 : Cond.methodLink RX12 308 yX12_readClause ∈ zgood := zg_8 169 (by decide +kernel) rfl
theorem kX12_210 : Cond.methodLink RX12 210 yX12_word ∈ zgood := zg_8 173 (by decide +kernel) rfl
theorem kX12_213 : Cond.methodLink RX12 213 yX12_isWord ∈ zgood := zg_8 178 (by decide +kernel) rfl
theorem kX12_200 : Cond.methodLink RX12 200 yJ0_length_8abf5 ∈ zgood := zg_8 182 (by decide +kernel) rfl
theorem kX12_206 : Cond.methodLink RX12 206 yJ0_charAt_5068e ∈ zgood := zg_8 183 (by decide +kernel) rfl
theorem kX12_303 : Cond.methodLink RX12 303 yX12_item ∈ zgood := zg_8 189 (by decide +kernel) rfl
theorem kX12_281 : Cond.methodLink RX12 281 yX12_number ∈ zgood := zg_8 200 (by decide +kernel) rfl
theorem kX12_267 : Cond.methodLink RX12 267 yX12_passes ∈ zgood := zg_8 205 (by decide +kernel) rfl
theorem kX12_261 : Cond.methodLink RX12 261 yX12_readCond ∈ zgood := zg_8 209 (by decide +kernel) rfl
theorem kX12_286 : Cond.methodLink RX12 286 yX12_readAllOf ∈ zgood := zg_8 213 (by decide +kernel) rfl
theorem kX12_270 : Cond.methodLink RX12 270 yX12_readAtom ∈ zgood := zg_8 217 (by decide +kernel) rfl
theorem kX12_254 : Cond.methodLink RX12 254 yX12_passesSign ∈ zgood := zg_8 221 (by decide +kernel) rfl
theorem kX12_273 : Cond.methodLink RX12 273 yX12_adds ∈ zgood := zg_8 226 (by decide +kernel) rfl
theorem kX12_277 : Cond.methodLink RX12 277 yX12_fact ∈ zgood := zg_8 230 (by decide +kernel) rfl
theorem kL_144 : Cond.methodLink RL 144 yX12_person ∈ zgood := zg_9 4 (by decide +kernel) rfl
theorem kX12_375 : Cond.constant RX12 375 (-40000) ∈ zgood := zg_9 8 (by decide +kernel) rfl
theorem kX12_376 : Cond.methodLink RX12 376 yX12_noFace ∈ zgood := zg_9 9 (by decide +kernel) rfl
theorem kL_147 : Cond.methodLink RL 147 yX12_name ∈ zgood := zg_9 12 (by decide +kernel) rfl
theorem kX12_385 : Cond.methodLink RX12 385 yX12_nobody ∈ zgood := zg_9 16 (by decide +kernel) rfl
theorem kX12_388 : Cond.methodLink RX12 388 yX12_readName ∈ zgood := zg_9 20 (by decide +kernel) rfl
theorem kX12_379 : Cond.methodLink RX12 379 yX12_turnOf ∈ zgood := zg_9 24 (by decide +kernel) rfl
theorem kX12_382 : Cond.methodLink RX12 382 yX12_isGap ∈ zgood := zg_9 27 (by decide +kernel) rfl
theorem kL_151 : Cond.methodLink RL 151 yX12_sign ∈ zgood := zg_9 30 (by decide +kernel) rfl
theorem kL_154 : Cond.methodLink RL 154 yX12_figure ∈ zgood := zg_9 34 (by decide +kernel) rfl
theorem kL_157 : Cond.methodLink RL 157 yX12_far ∈ zgood := zg_9 38 (by decide +kernel) rfl
theorem kX12_391 : Cond.methodLink RX12 391 yX12_farOf ∈ zgood := zg_9 42 (by decide +kernel) rfl
theorem kL_176 : Cond.methodLink RL 176 yX12_hands ∈ zgood := zg_9 46 (by decide +kernel) rfl
theorem kX12_394 : Cond.methodLink RX12 394 yX12_noDesk ∈ zgood := zg_9 50 (by decide +kernel) rfl
theorem kL_180 : Cond.methodLink RL 180 yX12_lend ∈ zgood := zg_9 53 (by decide +kernel) rfl
theorem kL_183 : Cond.methodLink RL 183 yX12_units ∈ zgood := zg_9 57 (by decide +kernel) rfl
theorem kX12_400 : Cond.methodLink RX12 400 yX12_unitsOf ∈ zgood := zg_9 61 (by decide +kernel) rfl
theorem kX12_366 : Cond.methodLink RX12 366 yJ9_max_7cf53 ∈ zgood := zg_9 65 (by decide +kernel) rfl
theorem kL_187 : Cond.methodLink RL 187 yX12_rules ∈ zgood := zg_9 66 (by decide +kernel) rfl
theorem kL_191 : Cond.methodLink RL 191 yX12_order ∈ zgood := zg_9 70 (by decide +kernel) rfl
theorem kL_194 : Cond.methodLink RL 194 yX12_blanks ∈ zgood := zg_9 74 (by decide +kernel) rfl
theorem kL_197 : Cond.methodLink RL 197 yX12_broken ∈ zgood := zg_9 78 (by decide +kernel) rfl
theorem kL_165 : Cond.methodLink RL 165 yX12_judge ∈ zgood := zg_9 82 (by decide +kernel) rfl
theorem kX12_418 : Cond.methodLink RX12 418 yX12_noAsk ∈ zgood := zg_9 86 (by decide +kernel) rfl
theorem kX12_421 : Cond.methodLink RX12 421 yX12_judges ∈ zgood := zg_9 90 (by decide +kernel) rfl
theorem kX12_331 : Cond.methodLink RX12 331 yJ9_floorDiv_7cf53 ∈ zgood := zg_9 94 (by decide +kernel) rfl
theorem kX12_337 : Cond.methodLink RX12 337 yX12_validOf ∈ zgood := zg_9 97 (by decide +kernel) rfl
theorem kX12_359 : Cond.methodLink RX12 359 yX12_lawOf ∈ zgood := zg_9 101 (by decide +kernel) rfl
theorem kX12_363 : Cond.methodLink RX12 363 yX12_holds ∈ zgood := zg_9 105 (by decide +kernel) rfl
theorem kX12_369 : Cond.methodLink RX12 369 yJ9_min_7cf53 ∈ zgood := zg_9 109 (by decide +kernel) rfl
theorem kL_169 : Cond.methodLink RL 169 yX12_ask ∈ zgood := zg_9 110 (by decide +kernel) rfl
theorem kX12_425 : Cond.methodLink RX12 425 yX12_sets ∈ zgood := zg_9 114 (by decide +kernel) rfl
theorem kL_172 : Cond.methodLink RL 172 yX12_give ∈ zgood := zg_9 118 (by decide +kernel) rfl
theorem kX12_431 : Cond.methodLink RX12 431 yX12_noAsking ∈ zgood := zg_9 122 (by decide +kernel) rfl
theorem kX12_434 : Cond.methodLink RX12 434 yX12_now ∈ zgood := zg_9 126 (by decide +kernel) rfl
theorem kX12_437 : Cond.methodLink RX12 437 yX12_lacksOf ∈ zgood := zg_9 130 (by decide +kernel) rfl
theorem kL_161 : Cond.methodLink RL 161 yX12_tell ∈ zgood := zg_9 134 (by decide +kernel) rfl
theorem kX12_440 : Cond.methodLink RX12 440 yX12_checks ∈ zgood := zg_9 138 (by decide +kernel) rfl
theorem kL_200 : Cond.methodLink RL 200 yX12_days ∈ zgood := zg_9 142 (by decide +kernel) rfl
theorem kX12_490 : Cond.methodLink RX12 490 yX12_day ∈ zgood := zg_9 146 (by decide +kernel) rfl
theorem kX12_459 : Cond.methodLink RX12 459 yX12_gets ∈ zgood := zg_9 150 (by decide +kernel) rfl
theorem kX12_487 : Cond.methodLink RX12 487 yX12_works ∈ zgood := zg_9 154 (by decide +kernel) rfl
theorem kX12_468 : Cond.methodLink RX12 468 yX12_lines ∈ zgood := zg_9 158 (by decide +kernel) rfl
theorem kX12_450 : Cond.methodLink RX12 450 yX12_stateAt ∈ zgood := zg_9 162 (by decide +kernel) rfl
theorem kX12_453 : Cond.methodLink RX12 453 yX12_isAhead ∈ zgood := zg_9 165 (by decide +kernel) rfl
theorem kX12_444 : Cond.methodLink RX12 444 yX12_hasTicket ∈ zgood := zg_9 169 (by decide +kernel) rfl
theorem kX12_472 : Cond.methodLink RX12 472 yX12_takes ∈ zgood := zg_9 173 (by decide +kernel) rfl
theorem kX12_475 : Cond.methodLink RX12 475 yX12_canPrint ∈ zgood := zg_9 177 (by decide +kernel) rfl
theorem kX12_478 : Cond.methodLink RX12 478 yX12_does ∈ zgood := zg_9 181 (by decide +kernel) rfl
theorem kX12_462 : Cond.methodLink RX12 462 yX12_prints ∈ zgood := zg_9 185 (by decide +kernel) rfl
theorem kL_203 : Cond.methodLink RL 203 yX12_refuse ∈ zgood := zg_9 189 (by decide +kernel) rfl
theorem kL_206 : Cond.methodLink RL 206 yX12_lose ∈ zgood := zg_9 193 (by decide +kernel) rfl
theorem kL_209 : Cond.methodLink RL 209 yX12_again ∈ zgood := zg_9 197 (by decide +kernel) rfl
theorem kL_212 : Cond.methodLink RL 212 yX12_led ∈ zgood := zg_9 201 (by decide +kernel) rfl
theorem kL_215 : Cond.methodLink RL 215 yX12_queue ∈ zgood := zg_9 205 (by decide +kernel) rfl
theorem kL_218 : Cond.methodLink RL 218 yX12_ahead ∈ zgood := zg_9 209 (by decide +kernel) rfl
theorem kL_221 : Cond.methodLink RL 221 yX12_booklet ∈ zgood := zg_9 213 (by decide +kernel) rfl
theorem kL_224 : Cond.methodLink RL 224 yX12_valid ∈ zgood := zg_9 217 (by decide +kernel) rfl
theorem kL_227 : Cond.methodLink RL 227 yX12_missed ∈ zgood := zg_9 221 (by decide +kernel) rfl
theorem kL_231 : Cond.methodLink RL 231 yX12_waits ∈ zgood := zg_9 225 (by decide +kernel) rfl
theorem kL_235 : Cond.methodLink RL 235 yX12_ends ∈ zgood := zg_9 229 (by decide +kernel) rfl
theorem kL_239 : Cond.methodLink RL 239 yX12_count ∈ zgood := zg_9 233 (by decide +kernel) rfl
theorem kX12_493 : Cond.methodLink RX12 493 yX12_inState ∈ zgood := zg_9 237 (by decide +kernel) rfl
/-! methods, and what a call of each asks of the tables -/
abbrev mX0_init : ZM := (yX0_init, cX0_init, 8, none)
abbrev mX0_twin : ZM := (yX0_twin, cX0_twin, 1, (some (.object "PassportOffice$Asking")))
abbrev mX0_copyFrom : ZM := (yX0_copyFrom, cX0_copyFrom, 2, none)
abbrev mX0_lackingItems : ZM := (yX0_lackingItems, cX0_lackingItems, 1, (some .int))
abbrev mX0_gaveTicket : ZM := (yX0_gaveTicket, cX0_gaveTicket, 1, (some .boolean))
abbrev mX0_isOpen : ZM := (yX0_isOpen, cX0_isOpen, 1, (some .boolean))
abbrev mX0_isGotInTime : ZM := (yX0_isGotInTime, cX0_isGotInTime, 1, (some .boolean))
abbrev mX0_waitedDays : ZM := (yX0_waitedDays, cX0_waitedDays, 1, (some .int))
abbrev mX1_init : ZM := (yX1_init, cX1_init, 1, none)
abbrev mX1_isValidOn : ZM := (yX1_isValidOn, cX1_isValidOn, 2, (some .boolean))
abbrev mX1_copyFrom : ZM := (yX1_copyFrom, cX1_copyFrom, 2, none)
abbrev mX2_init : ZM := (yX2_init, cX2_init, 1, none)
abbrev mX2_setHands : ZM := (yX2_setHands, cX2_setHands, 3, none)
abbrev mX2_unitsOn : ZM := (yX2_unitsOn, cX2_unitsOn, 6, (some .int))
abbrev mX3_init : ZM := (yX3_init, cX3_init, 3, none)
abbrev mX3_verdictOn : ZM := (yX3_verdictOn, cX3_verdictOn, 4, (some (.object "PassportOffice$Verdict")))
abbrev mX3_fail : ZM := (yX3_fail, cX3_fail, 1, none)
abbrev mX3_advance : ZM := (yX3_advance, cX3_advance, 1, none)
abbrev mX3_thingOf : ZM := (yX3_thingOf, cX3_thingOf, 1, (some .int))
abbrev mX3_isSign : ZM := (yX3_isSign, cX3_isSign, 2, (some .boolean))
abbrev mX3_isWord : ZM := (yX3_isWord, cX3_isWord, 2, (some .boolean))
abbrev mX3_numberAmong : ZM := (yX3_numberAmong, cX3_numberAmong, 7, (some .int))
abbrev mX3_readClause : ZM := (yX3_readClause, cX3_readClause, 4, none)
abbrev mX3_readItem : ZM := (yX3_readItem, cX3_readItem, 2, (some .int))
abbrev mX3_readNumber : ZM := (yX3_readNumber, cX3_readNumber, 3, (some .int))
abbrev mX3_readAny : ZM := (yX3_readAny, cX3_readAny, 4, (some .boolean))
abbrev mX3_readAll : ZM := (yX3_readAll, cX3_readAll, 4, (some .boolean))
abbrev mX3_readAtom : ZM := (yX3_readAtom, cX3_readAtom, 4, (some .boolean))
abbrev mX3_readFact : ZM := (yX3_readFact, cX3_readFact, 5, (some .boolean))
abbrev mX4_init : ZM := (yX4_init, cX4_init, 6, none)
abbrev mX4_unitsOn : ZM := (yX4_unitsOn, cX4_unitsOn, 3, (some .int))
abbrev mX5_init : ZM := (yX5_init, cX5_init, 3, none)
abbrev mX5_firstWrong : ZM := (yX5_firstWrong, cX5_firstWrong, 4, (some .int))
abbrev mX5_isGap : ZM := (yX5_isGap, cX5_isGap, 1, (some .boolean))
abbrev mX5_isLetter : ZM := (yX5_isLetter, cX5_isLetter, 1, (some .boolean))
abbrev mX5_markedNumber : ZM := (yX5_markedNumber, cX5_markedNumber, 2, (some .int))
abbrev mX5_write : ZM := (yX5_write, cX5_write, 3, none)
abbrev mX5_append : ZM := (yX5_append, cX5_append, 2, none)
abbrev mX5_checkFigure : ZM := (yX5_checkFigure, cX5_checkFigure, 4, (some .int))
abbrev mX6_init : ZM := (yX6_init, cX6_init, 4, none)
abbrev mX6_copyFrom : ZM := (yX6_copyFrom, cX6_copyFrom, 2, none)
abbrev mX6_copyAskings : ZM := (yX6_copyAskings, cX6_copyAskings, 4, none)
abbrev mX6_copyBooklets : ZM := (yX6_copyBooklets, cX6_copyBooklets, 3, none)
abbrev mX6_newBooklet : ZM := (yX6_newBooklet, cX6_newBooklet, 2, (some (.object "PassportOffice$Booklet")))
abbrev mX6_bookletAt : ZM := (yX6_bookletAt, cX6_bookletAt, 3, (some (.object "PassportOffice$Booklet")))
abbrev mX6_countIn : ZM := (yX6_countIn, cX6_countIn, 4, (some .int))
abbrev mX6_countOpen : ZM := (yX6_countOpen, cX6_countOpen, 3, (some .int))
abbrev mX6_validOf : ZM := (yX6_validOf, cX6_validOf, 6, (some .int))
abbrev mX6_countEnds : ZM := (yX6_countEnds, cX6_countEnds, 6, (some .int))
abbrev mX6_countAhead : ZM := (yX6_countAhead, cX6_countAhead, 5, (some .int))
abbrev mX6_deskOf : ZM := (yX6_deskOf, cX6_deskOf, 2, (some .int))
abbrev mX6_isAhead : ZM := (yX6_isAhead, cX6_isAhead, 5, (some .boolean))
abbrev mX6_firstIn : ZM := (yX6_firstIn, cX6_firstIn, 5, (some (.object "PassportOffice$Asking")))
abbrev mX6_passDay : ZM := (yX6_passDay, cX6_passDay, 2, none)
abbrev mX6_takePost : ZM := (yX6_takePost, cX6_takePost, 3, none)
abbrev mX6_countCalls : ZM := (yX6_countCalls, cX6_countCalls, 4, none)
abbrev mX6_workAt : ZM := (yX6_workAt, cX6_workAt, 5, (some .int))
abbrev mX6_unitsFor : ZM := (yX6_unitsFor, cX6_unitsFor, 2, (some .int))
abbrev mX6_canPrint : ZM := (yX6_canPrint, cX6_canPrint, 2, (some .boolean))
abbrev mX6_serve : ZM := (yX6_serve, cX6_serve, 3, none)
abbrev mX6_read : ZM := (yX6_read, cX6_read, 2, none)
abbrev mX6_check : ZM := (yX6_check, cX6_check, 3, none)
abbrev mX6_checkHeldAgain : ZM := (yX6_checkHeldAgain, cX6_checkHeldAgain, 4, (some .int))
abbrev mX6_print : ZM := (yX6_print, cX6_print, 4, none)
abbrev mX6_endValidOnes : ZM := (yX6_endValidOnes, cX6_endValidOnes, 4, none)
abbrev mX6_endBooklet : ZM := (yX6_endBooklet, cX6_endBooklet, 3, none)
abbrev mX6_arrive : ZM := (yX6_arrive, cX6_arrive, 2, none)
abbrev mX7_init : ZM := (yX7_init, cX7_init, 1, none)
abbrev mX7_isNearOne : ZM := (yX7_isNearOne, cX7_isNearOne, 7, (some .boolean))
abbrev mX8_init : ZM := (yX8_init, cX8_init, 5, none)
abbrev mX8_farFrom : ZM := (yX8_farFrom, cX8_farFrom, 5, (some .int))
abbrev mX8_putTold : ZM := (yX8_putTold, cX8_putTold, 3, none)
abbrev mX8_toldWith : ZM := (yX8_toldWith, cX8_toldWith, 3, (some .int))
abbrev mX9_init : ZM := (yX9_init, cX9_init, 1, none)
abbrev mX10_init : ZM := (yX10_init, cX10_init, 1, none)
abbrev mX10_take : ZM := (yX10_take, cX10_take, 3, none)
abbrev mX10_validYears : ZM := (yX10_validYears, cX10_validYears, 1, (some .int))
abbrev mX11_init : ZM := (yX11_init, cX11_init, 1, none)
abbrev mX11_feed : ZM := (yX11_feed, cX11_feed, 6, (some .int))
abbrev mX11_putBytes : ZM := (yX11_putBytes, cX11_putBytes, 3, none)
abbrev mX11_end : ZM := (yX11_end, cX11_end, 2, (some .boolean))
abbrev mX11_useTapeUp : ZM := (yX11_useTapeUp, cX11_useTapeUp, 2, (some (.array .int)))
abbrev mX11_law : ZM := (yX11_law, cX11_law, 4, (some .int))
abbrev mX11_fault : ZM := (yX11_fault, cX11_fault, 1, (some .int))
abbrev mX11_lawOfToday : ZM := (yX11_lawOfToday, cX11_lawOfToday, 4, (some (.object "PassportOffice$Law")))
abbrev mX11_person : ZM := (yX11_person, cX11_person, 10, (some .int))
abbrev mX11_isFace : ZM := (yX11_isFace, cX11_isFace, 1, (some .boolean))
abbrev mX11_name : ZM := (yX11_name, cX11_name, 4, (some .int))
abbrev mX11_sign : ZM := (yX11_sign, cX11_sign, 4, (some .int))
abbrev mX11_figure : ZM := (yX11_figure, cX11_figure, 3, (some .int))
abbrev mX11_far : ZM := (yX11_far, cX11_far, 4, (some .int))
abbrev mX11_tell : ZM := (yX11_tell, cX11_tell, 6, (some .int))
abbrev mX11_judge : ZM := (yX11_judge, cX11_judge, 8, (some .int))
abbrev mX11_isKind : ZM := (yX11_isKind, cX11_isKind, 1, (some .boolean))
abbrev mX11_isWanted : ZM := (yX11_isWanted, cX11_isWanted, 2, (some .boolean))
abbrev mX11_isItems : ZM := (yX11_isItems, cX11_isItems, 1, (some .boolean))
abbrev mX11_factsOf : ZM := (yX11_factsOf, cX11_factsOf, 6, (some (.array .int)))
abbrev mX11_ask : ZM := (yX11_ask, cX11_ask, 9, (some .int))
abbrev mX11_give : ZM := (yX11_give, cX11_give, 4, (some .int))
abbrev mX11_refuse : ZM := (yX11_refuse, cX11_refuse, 3, none)
abbrev mX11_lose : ZM := (yX11_lose, cX11_lose, 3, none)
abbrev mX11_again : ZM := (yX11_again, cX11_again, 3, none)
abbrev mX11_led : ZM := (yX11_led, cX11_led, 4, (some .int))
abbrev mX11_hands : ZM := (yX11_hands, cX11_hands, 3, none)
abbrev mX11_lend : ZM := (yX11_lend, cX11_lend, 6, (some .int))
abbrev mX11_units : ZM := (yX11_units, cX11_units, 3, (some .int))
abbrev mX11_rules : ZM := (yX11_rules, cX11_rules, 6, none)
abbrev mX11_order : ZM := (yX11_order, cX11_order, 2, none)
abbrev mX11_isOrder : ZM := (yX11_isOrder, cX11_isOrder, 1, (some .boolean))
abbrev mX11_blanks : ZM := (yX11_blanks, cX11_blanks, 2, (some .int))
abbrev mX11_broken : ZM := (yX11_broken, cX11_broken, 3, none)
abbrev mX11_days : ZM := (yX11_days, cX11_days, 3, (some .int))
abbrev mX11_queue : ZM := (yX11_queue, cX11_queue, 2, (some .int))
abbrev mX11_ahead : ZM := (yX11_ahead, cX11_ahead, 2, (some .int))
abbrev mX11_booklet : ZM := (yX11_booklet, cX11_booklet, 4, (some .int))
abbrev mX11_valid : ZM := (yX11_valid, cX11_valid, 3, (some .int))
abbrev mX11_missed : ZM := (yX11_missed, cX11_missed, 7, (some .int))
abbrev mX11_waits : ZM := (yX11_waits, cX11_waits, 6, (some .int))
abbrev mX11_latestWaits : ZM := (yX11_latestWaits, cX11_latestWaits, 6, (some (.array .int)))
abbrev mX11_sort : ZM := (yX11_sort, cX11_sort, 5, none)
abbrev mX11_ends : ZM := (yX11_ends, cX11_ends, 3, (some .int))
abbrev mX11_count : ZM := (yX11_count, cX11_count, 2, (some .int))
abbrev mX11_demand : ZM := (yX11_demand, cX11_demand, 1, none)
abbrev mX11_allow : ZM := (yX11_allow, cX11_allow, 1, none)
abbrev mX11_checkDesk : ZM := (yX11_checkDesk, cX11_checkDesk, 1, none)
abbrev mX11_personAt : ZM := (yX11_personAt, cX11_personAt, 2, (some (.object "PassportOffice$Person")))
abbrev mX11_askingAt : ZM := (yX11_askingAt, cX11_askingAt, 2, (some (.object "PassportOffice$Asking")))
abbrev mX12_init : ZM := (yX12_init, cX12_init, 1, none)
abbrev mX12_thrown : ZM := (yX12_thrown, cX12_thrown, 1, (some .int))
abbrev mX12_throwsIf : ZM := (yX12_throwsIf, cX12_throwsIf, 3, (some .boolean))
abbrev mX12_in : ZM := (yX12_in, cX12_in, 3, (some .boolean))
abbrev mX12_feed : ZM := (yX12_feed, cX12_feed, 7, (some .int))
abbrev mX12_end : ZM := (yX12_end, cX12_end, 2, (some .boolean))
abbrev mX12_uses : ZM := (yX12_uses, cX12_uses, 1, none)
abbrev mX12_isAt : ZM := (yX12_isAt, cX12_isAt, 3, (some .boolean))
abbrev mX12_blanksBetween : ZM := (yX12_blanksBetween, cX12_blanksBetween, 1, none)
abbrev mX12_word : ZM := (yX12_word, cX12_word, 1, none)
abbrev mX12_isWord : ZM := (yX12_isWord, cX12_isWord, 4, (some .boolean))
abbrev mX12_passes : ZM := (yX12_passes, cX12_passes, 2, (some .boolean))
abbrev mX12_passesSign : ZM := (yX12_passesSign, cX12_passesSign, 2, (some .boolean))
abbrev mX12_number : ZM := (yX12_number, cX12_number, 2, (some .int))
abbrev mX12_fault : ZM := (yX12_fault, cX12_fault, 1, (some .int))
abbrev mX12_adds : ZM := (yX12_adds, cX12_adds, 5, none)
abbrev mX12_fact : ZM := (yX12_fact, cX12_fact, 1, (some (.object "java/lang/String")))
abbrev mX12_item : ZM := (yX12_item, cX12_item, 1, (some (.object "java/lang/String")))
abbrev mX12_readAtom : ZM := (yX12_readAtom, cX12_readAtom, 4, (some .boolean))
abbrev mX12_readAllOf : ZM := (yX12_readAllOf, cX12_readAllOf, 1, (some .boolean))
abbrev mX12_readCond : ZM := (yX12_readCond, cX12_readCond, 1, (some .boolean))
abbrev mX12_readClause : ZM := (yX12_readClause, cX12_readClause, 4, (some .boolean))
abbrev mX12_readLaw : ZM := (yX12_readLaw, cX12_readLaw, 2, (some .int))
abbrev mX12_law : ZM := (yX12_law, cX12_law, 4, (some .int))
abbrev mX12_lawOf : ZM := (yX12_lawOf, cX12_lawOf, 4, (some .int))
abbrev mX12_holds : ZM := (yX12_holds, cX12_holds, 7, (some .boolean))
abbrev mX12_judges : ZM := (yX12_judges, cX12_judges, 8, none)
abbrev mX12_nobody : ZM := (yX12_nobody, cX12_nobody, 2, (some .boolean))
abbrev mX12_noFace : ZM := (yX12_noFace, cX12_noFace, 1, (some .boolean))
abbrev mX12_person : ZM := (yX12_person, cX12_person, 8, (some .int))
abbrev mX12_isGap : ZM := (yX12_isGap, cX12_isGap, 1, (some .boolean))
abbrev mX12_turnOf : ZM := (yX12_turnOf, cX12_turnOf, 1, (some .int))
abbrev mX12_readName : ZM := (yX12_readName, cX12_readName, 5, (some .int))
abbrev mX12_name : ZM := (yX12_name, cX12_name, 4, (some .int))
abbrev mX12_sign : ZM := (yX12_sign, cX12_sign, 3, (some .int))
abbrev mX12_figure : ZM := (yX12_figure, cX12_figure, 5, (some .int))
abbrev mX12_farOf : ZM := (yX12_farOf, cX12_farOf, 6, (some .int))
abbrev mX12_far : ZM := (yX12_far, cX12_far, 3, (some .int))
abbrev mX12_noDesk : ZM := (yX12_noDesk, cX12_noDesk, 1, (some .boolean))
abbrev mX12_hands : ZM := (yX12_hands, cX12_hands, 3, none)
abbrev mX12_lend : ZM := (yX12_lend, cX12_lend, 6, (some .int))
abbrev mX12_unitsOf : ZM := (yX12_unitsOf, cX12_unitsOf, 5, (some .int))
abbrev mX12_units : ZM := (yX12_units, cX12_units, 3, (some .int))
abbrev mX12_rules : ZM := (yX12_rules, cX12_rules, 6, none)
abbrev mX12_order : ZM := (yX12_order, cX12_order, 2, none)
abbrev mX12_blanks : ZM := (yX12_blanks, cX12_blanks, 2, (some .int))
abbrev mX12_broken : ZM := (yX12_broken, cX12_broken, 3, none)
abbrev mX12_noAsking : ZM := (yX12_noAsking, cX12_noAsking, 2, (some .boolean))
abbrev mX12_now : ZM := (yX12_now, cX12_now, 3, (some .int))
abbrev mX12_sets : ZM := (yX12_sets, cX12_sets, 4, none)
abbrev mX12_lacksOf : ZM := (yX12_lacksOf, cX12_lacksOf, 2, (some .int))
abbrev mX12_validOf : ZM := (yX12_validOf, cX12_validOf, 5, (some .int))
abbrev mX12_noAsk : ZM := (yX12_noAsk, cX12_noAsk, 3, (some .boolean))
abbrev mX12_judge : ZM := (yX12_judge, cX12_judge, 6, (some .int))
abbrev mX12_ask : ZM := (yX12_ask, cX12_ask, 7, (some .int))
abbrev mX12_give : ZM := (yX12_give, cX12_give, 3, (some .int))
abbrev mX12_checks : ZM := (yX12_checks, cX12_checks, 6, none)
abbrev mX12_tell : ZM := (yX12_tell, cX12_tell, 6, (some .int))
abbrev mX12_stateAt : ZM := (yX12_stateAt, cX12_stateAt, 1, (some .int))
abbrev mX12_hasTicket : ZM := (yX12_hasTicket, cX12_hasTicket, 2, (some .boolean))
abbrev mX12_isAhead : ZM := (yX12_isAhead, cX12_isAhead, 4, (some .boolean))
abbrev mX12_lines : ZM := (yX12_lines, cX12_lines, 5, none)
abbrev mX12_takes : ZM := (yX12_takes, cX12_takes, 3, (some .int))
abbrev mX12_gets : ZM := (yX12_gets, cX12_gets, 2, none)
abbrev mX12_prints : ZM := (yX12_prints, cX12_prints, 4, none)
abbrev mX12_does : ZM := (yX12_does, cX12_does, 3, none)
abbrev mX12_canPrint : ZM := (yX12_canPrint, cX12_canPrint, 1, (some .boolean))
abbrev mX12_works : ZM := (yX12_works, cX12_works, 6, none)
abbrev mX12_day : ZM := (yX12_day, cX12_day, 4, none)
abbrev mX12_days : ZM := (yX12_days, cX12_days, 3, (some .int))
abbrev mX12_refuse : ZM := (yX12_refuse, cX12_refuse, 2, none)
abbrev mX12_lose : ZM := (yX12_lose, cX12_lose, 3, none)
abbrev mX12_again : ZM := (yX12_again, cX12_again, 2, none)
abbrev mX12_led : ZM := (yX12_led, cX12_led, 3, (some .int))
abbrev mX12_queue : ZM := (yX12_queue, cX12_queue, 2, (some .int))
abbrev mX12_ahead : ZM := (yX12_ahead, cX12_ahead, 5, (some .int))
abbrev mX12_booklet : ZM := (yX12_booklet, cX12_booklet, 3, (some .int))
abbrev mX12_valid : ZM := (yX12_valid, cX12_valid, 3, (some .int))
abbrev mX12_missed : ZM := (yX12_missed, cX12_missed, 12, (some .int))
abbrev mX12_waits : ZM := (yX12_waits, cX12_waits, 9, (some .int))
abbrev mX12_ends : ZM := (yX12_ends, cX12_ends, 5, (some .int))
abbrev mX12_inState : ZM := (yX12_inState, cX12_inState, 5, (some .int))
abbrev mX12_count : ZM := (yX12_count, cX12_count, 2, (some .int))
abbrev mJ5_init_d00df : ZM := (yJ5_init_d00df, cJ5_init_d00df, 2, none)
abbrev mJ5_length_8abf5 : ZM := (yJ5_length_8abf5, cJ5_length_8abf5, 1, (some .int))
abbrev mJ5_ensureCapacityInternal_d00df : ZM := (yJ5_ensureCapacityInternal_d00df, cJ5_ensureCapacityInternal_d00df, 3, none)
abbrev mJ5_newCapacity_0f7a4 : ZM := (yJ5_newCapacity_0f7a4, cJ5_newCapacity_0f7a4, 6, (some .int))
abbrev mJ5_inflate_da8c8 : ZM := (yJ5_inflate_da8c8, cJ5_inflate_da8c8, 2, none)
abbrev mJ5_append_cf1ce : ZM := (yJ5_append_cf1ce, cJ5_append_cf1ce, 3, (some (.object "java/lang/AbstractStringBuilder")))
abbrev mJ5_appendNull_278bc : ZM := (yJ5_appendNull_278bc, cJ5_appendNull_278bc, 3, (some (.object "java/lang/AbstractStringBuilder")))
abbrev mJ5_append_c97b9 : ZM := (yJ5_append_c97b9, cJ5_append_c97b9, 4, (some (.object "java/lang/AbstractStringBuilder")))
abbrev mJ5_getValue_6d5f1 : ZM := (yJ5_getValue_6d5f1, cJ5_getValue_6d5f1, 1, (some (.array .byte)))
abbrev mJ5_isLatin1_aae02 : ZM := (yJ5_isLatin1_aae02, cJ5_isLatin1_aae02, 1, (some .boolean))
abbrev mJ5_inflateIfNeededFor_a7421 : ZM := (yJ5_inflateIfNeededFor_a7421, cJ5_inflateIfNeededFor_a7421, 2, none)
abbrev mJ5_putStringAt_47b60 : ZM := (yJ5_putStringAt_47b60, cJ5_putStringAt_47b60, 3, none)
abbrev mJ6_getChars_ba4f3 : ZM := (yJ6_getChars_ba4f3, cJ6_getChars_ba4f3, 7, (some .int))
abbrev mJ6_stringSize_0f7a4 : ZM := (yJ6_stringSize_0f7a4, cJ6_stringSize_0f7a4, 4, (some .int))
abbrev mJ9_floorDiv_7cf53 : ZM := (yJ9_floorDiv_7cf53, cJ9_floorDiv_7cf53, 3, (some .int))
abbrev mJ9_max_7cf53 : ZM := (yJ9_max_7cf53, cJ9_max_7cf53, 2, (some .int))
abbrev mJ9_min_7cf53 : ZM := (yJ9_min_7cf53, cJ9_min_7cf53, 2, (some .int))
abbrev mJ0_init_81219 : ZM := (yJ0_init_81219, cJ0_init_81219, 2, none)
abbrev mJ0_length_8abf5 : ZM := (yJ0_length_8abf5, cJ0_length_8abf5, 1, (some .int))
abbrev mJ0_charAt_5068e : ZM := (yJ0_charAt_5068e, cJ0_charAt_5068e, 2, (some .char))
abbrev mJ0_getBytes_840e7 : ZM := (yJ0_getBytes_840e7, cJ0_getBytes_840e7, 4, none)
abbrev mJ0_init_db425 : ZM := (yJ0_init_db425, cJ0_init_db425, 5, none)
abbrev mJ0_coder_7d493 : ZM := (yJ0_coder_7d493, cJ0_coder_7d493, 1, (some .byte))
abbrev mJ0_isLatin1_aae02 : ZM := (yJ0_isLatin1_aae02, cJ0_isLatin1_aae02, 1, (some .boolean))
abbrev mJ0_checkIndex_df160 : ZM := (yJ0_checkIndex_df160, cJ0_checkIndex_df160, 2, none)
abbrev mJ0_checkBoundsOffCount_cabcc : ZM := (yJ0_checkBoundsOffCount_cabcc, cJ0_checkBoundsOffCount_cabcc, 3, (some .int))
abbrev mJ0_checkBoundsBeginEnd_23922 : ZM := (yJ0_checkBoundsBeginEnd_23922, cJ0_checkBoundsBeginEnd_23922, 3, none)
abbrev mJ4_init_da8c8 : ZM := (yJ4_init_da8c8, cJ4_init_da8c8, 1, none)
abbrev mJ4_append_15ec4 : ZM := (yJ4_append_15ec4, cJ4_append_15ec4, 2, (some (.object "java/lang/StringBuilder")))
abbrev mJ4_append_bf812 : ZM := (yJ4_append_bf812, cJ4_append_bf812, 2, (some (.object "java/lang/StringBuilder")))
abbrev mJ4_toString_0e30d : ZM := (yJ4_toString_0e30d, cJ4_toString_0e30d, 1, (some (.object "java/lang/String")))
abbrev mJ4_length_8abf5 : ZM := (yJ4_length_8abf5, cJ4_length_8abf5, 1, (some .int))
abbrev mJ1_charAt_3b067 : ZM := (yJ1_charAt_3b067, cJ1_charAt_3b067, 2, (some .char))
abbrev mJ1_inflate_0e8fd : ZM := (yJ1_inflate_0e8fd, cJ1_inflate_0e8fd, 5, none)
abbrev mJ2_newBytesFor_77867 : ZM := (yJ2_newBytesFor_77867, cJ2_newBytesFor_77867, 1, (some (.array .byte)))
abbrev mJ2_newBytesLength_0f7a4 : ZM := (yJ2_newBytesLength_0f7a4, cJ2_newBytesLength_0f7a4, 1, (some .int))
abbrev mJ2_putChar_b72d1 : ZM := (yJ2_putChar_b72d1, cJ2_putChar_b72d1, 3, none)
abbrev mJ2_getChar_3b067 : ZM := (yJ2_getChar_3b067, cJ2_getChar_3b067, 2, (some .char))
abbrev mJ2_length_9d52b : ZM := (yJ2_length_9d52b, cJ2_length_9d52b, 1, (some .int))
abbrev mJ2_coderFromArrayLen_85cad : ZM := (yJ2_coderFromArrayLen_85cad, cJ2_coderFromArrayLen_85cad, 2, (some .byte))
abbrev mJ2_compress_39247 : ZM := (yJ2_compress_39247, cJ2_compress_39247, 6, (some (.array .byte)))
abbrev mJ2_compress_5af95 : ZM := (yJ2_compress_5af95, cJ2_compress_5af95, 7, (some .int))
abbrev mJ2_getChars_46870 : ZM := (yJ2_getChars_46870, cJ2_getChars_46870, 5, (some .int))
abbrev mJ2_putCharsAt_cd4e5 : ZM := (yJ2_putCharsAt_cd4e5, cJ2_putCharsAt_cd4e5, 7, (some .int))
abbrev mJ2_charAt_3b067 : ZM := (yJ2_charAt_3b067, cJ2_charAt_3b067, 2, (some .char))
abbrev mJ2_inflate_0e8fd : ZM := (yJ2_inflate_0e8fd, cJ2_inflate_0e8fd, 6, none)
abbrev mJ2_getChars_ba4f3 : ZM := (yJ2_getChars_ba4f3, cJ2_getChars_ba4f3, 7, (some .int))
abbrev mJ2_checkIndex_2214a : ZM := (yJ2_checkIndex_2214a, cJ2_checkIndex_2214a, 2, none)
abbrev mJ2_checkBoundsBeginEnd_d044e : ZM := (yJ2_checkBoundsBeginEnd_d044e, cJ2_checkBoundsBeginEnd_d044e, 3, none)
abbrev mJ2_checkBoundsOffCount_d044e : ZM := (yJ2_checkBoundsOffCount_d044e, cJ2_checkBoundsOffCount_d044e, 3, none)
abbrev mJxa1e45_init_da8c8 : ZM := (yJxa1e45_init_da8c8, cJxa1e45_init_da8c8, 1, none)
abbrev mJxc12de_init_da8c8 : ZM := (yJxc12de_init_da8c8, cJxc12de_init_da8c8, 1, none)
abbrev mJx4a65c_init_da8c8 : ZM := (yJx4a65c_init_da8c8, cJx4a65c_init_da8c8, 1, none)
abbrev mJx4a65c_grow_92f84 : ZM := (yJx4a65c_grow_92f84, cJx4a65c_grow_92f84, 4, (some (.array (.object "java/lang/Object"))))
abbrev mJx4a65c_grow_d5877 : ZM := (yJx4a65c_grow_d5877, cJx4a65c_grow_d5877, 1, (some (.array (.object "java/lang/Object"))))
abbrev mJx4a65c_size_8abf5 : ZM := (yJx4a65c_size_8abf5, cJx4a65c_size_8abf5, 1, (some .int))
abbrev mJx4a65c_elementData_915e3 : ZM := (yJx4a65c_elementData_915e3, cJx4a65c_elementData_915e3, 2, (some (.object "java/lang/Object")))
abbrev mJx4a65c_get_915e3 : ZM := (yJx4a65c_get_915e3, cJx4a65c_get_915e3, 2, (some (.object "java/lang/Object")))
abbrev mJx4a65c_add_72be8 : ZM := (yJx4a65c_add_72be8, cJx4a65c_add_72be8, 4, none)
abbrev mJx4a65c_add_9ea2d : ZM := (yJx4a65c_add_9ea2d, cJx4a65c_add_9ea2d, 2, (some .boolean))
abbrev mJ7_fill_53178 : ZM := (yJ7_fill_53178, cJ7_fill_53178, 4, none)
abbrev mJ7_copyOf_1904c : ZM := (yJ7_copyOf_1904c, cJ7_copyOf_1904c, 2, (some (.array (.object "java/lang/Object"))))
abbrev mJ7_copyOf_6403c : ZM := (yJ7_copyOf_6403c, cJ7_copyOf_6403c, 4, (some (.array (.object "java/lang/Object"))))
abbrev mJ7_copyOf_9075b : ZM := (yJ7_copyOf_9075b, cJ7_copyOf_9075b, 3, (some (.array .byte)))
abbrev mJ7_copyOf_59c91 : ZM := (yJ7_copyOf_59c91, cJ7_copyOf_59c91, 3, (some (.array .int)))
abbrev mJ7_checkLength_df160 : ZM := (yJ7_checkLength_df160, cJ7_checkLength_df160, 2, none)
abbrev mJ7_copyOfRange_39247 : ZM := (yJ7_copyOfRange_39247, cJ7_copyOfRange_39247, 3, (some (.array .byte)))
abbrev mJ7_copyOfRangeByte_39247 : ZM := (yJ7_copyOfRangeByte_39247, cJ7_copyOfRangeByte_39247, 5, (some (.array .byte)))
abbrev mJ7_copyOfRange_feecc : ZM := (yJ7_copyOfRange_feecc, cJ7_copyOfRange_feecc, 3, (some (.array .int)))
abbrev mJ7_copyOfRangeInt_feecc : ZM := (yJ7_copyOfRangeInt_feecc, cJ7_copyOfRangeInt_feecc, 5, (some (.array .int)))
abbrev mJ15_checkIndex_7cf53 : ZM := (yJ15_checkIndex_7cf53, cJ15_checkIndex_7cf53, 2, (some .int))
abbrev mJ8_newLength_cabcc : ZM := (yJ8_newLength_cabcc, cJ8_newLength_cabcc, 4, (some .int))
abbrev mJ8_hugeLength_7cf53 : ZM := (yJ8_hugeLength_7cf53, cJ8_hugeLength_7cf53, 3, (some .int))
abbrev mJ3_checkIndex_8e157 : ZM := (yJ3_checkIndex_8e157, cJ3_checkIndex_8e157, 3, (some .int))
abbrev mJ3_checkFromToIndex_8c36e : ZM := (yJ3_checkFromToIndex_8c36e, cJ3_checkFromToIndex_8c36e, 4, (some .int))
abbrev mJ3_checkFromIndexSize_8c36e : ZM := (yJ3_checkFromIndexSize_8c36e, cJ3_checkFromIndexSize_8c36e, 4, (some .int))
abbrev mL_law : ZM := (yL_law, cL_law, 4, (some .int))
abbrev mL_person : ZM := (yL_person, cL_person, 10, (some .int))
abbrev mL_name : ZM := (yL_name, cL_name, 4, (some .int))
abbrev mL_sign : ZM := (yL_sign, cL_sign, 5, (some .int))
abbrev mL_figure : ZM := (yL_figure, cL_figure, 4, (some .int))
abbrev mL_far : ZM := (yL_far, cL_far, 5, (some .int))
abbrev mL_tell : ZM := (yL_tell, cL_tell, 6, (some .int))
abbrev mL_judge : ZM := (yL_judge, cL_judge, 8, (some .int))
abbrev mL_ask : ZM := (yL_ask, cL_ask, 8, (some .int))
abbrev mL_give : ZM := (yL_give, cL_give, 5, (some .int))
abbrev mL_hands : ZM := (yL_hands, cL_hands, 4, (some .int))
abbrev mL_lend : ZM := (yL_lend, cL_lend, 8, (some .int))
abbrev mL_units : ZM := (yL_units, cL_units, 5, (some .int))
abbrev mL_rules : ZM := (yL_rules, cL_rules, 7, (some .int))
abbrev mL_order : ZM := (yL_order, cL_order, 3, (some .int))
abbrev mL_blanks : ZM := (yL_blanks, cL_blanks, 4, (some .int))
abbrev mL_broken : ZM := (yL_broken, cL_broken, 4, (some .int))
abbrev mL_days : ZM := (yL_days, cL_days, 4, (some .int))
abbrev mL_refuse : ZM := (yL_refuse, cL_refuse, 3, (some .int))
abbrev mL_lose : ZM := (yL_lose, cL_lose, 3, (some .int))
abbrev mL_again : ZM := (yL_again, cL_again, 3, (some .int))
abbrev mL_led : ZM := (yL_led, cL_led, 5, (some .int))
abbrev mL_queue : ZM := (yL_queue, cL_queue, 4, (some .int))
abbrev mL_ahead : ZM := (yL_ahead, cL_ahead, 4, (some .int))
abbrev mL_booklet : ZM := (yL_booklet, cL_booklet, 5, (some .int))
abbrev mL_valid : ZM := (yL_valid, cL_valid, 5, (some .int))
abbrev mL_missed : ZM := (yL_missed, cL_missed, 5, (some .int))
abbrev mL_waits : ZM := (yL_waits, cL_waits, 5, (some .int))
abbrev mL_law_ : ZM := (yL_law_, cL_law_, 7, (some .boolean))
theorem iX0_init : zcI mX0_init 7 := ⟨List.forall_mem_cons.mpr ⟨zg_4 182 (by decide +kernel) rfl, List.forall_mem_cons.mpr ⟨zg_1 30 (by decide +kernel) rfl, List.forall_mem_cons.mpr ⟨zg_4 183 (by decide +kernel) rfl, fun _ h => nomatch h⟩⟩⟩, ⟨by decide +kernel, by decide +kernel, by decide +kernel⟩, by decide, rfl, rfl⟩
theorem vX0_twin : zcV mX0_twin 0 := ⟨List.forall_mem_cons.mpr ⟨zg_6 93 (by decide +kernel) rfl, List.forall_mem_cons.mpr ⟨zg_6 94 (by decide +kernel) rfl, List.forall_mem_cons.mpr ⟨zg_1 30 (by decide +kernel) rfl, List.forall_mem_cons.mpr ⟨zg_6 95 (by decide +kernel) rfl, fun _ h => nomatch h⟩⟩⟩⟩, ⟨by decide +kernel, by decide +kernel, by decide +kernel⟩, by decide⟩
theorem vX0_copyFrom : zcV mX0_copyFrom 1 := ⟨List.forall_mem_cons.mpr ⟨zg_6 99 (by decide +kernel) rfl, List.forall_mem_cons.mpr ⟨zg_6 100 (by decide +kernel) rfl, List.forall_mem_cons.mpr ⟨zg_1 30 (by decide +kernel) rfl, List.forall_mem_cons.mpr ⟨zg_6 101 (by decide +kernel) rfl, fun _ h => nomatch h⟩⟩⟩⟩, ⟨by decide +kernel, by decide +kernel, by decide +kernel⟩, by decide⟩
theorem vX0_lackingItems : zcV mX0_lackingItems 0 := ⟨List.forall_mem_cons.mpr ⟨zg_5 50 (by decide +kernel) rfl, List.forall_mem_cons.mpr ⟨zg_5 51 (by decide +kernel) rfl, List.forall_mem_cons.mpr ⟨zg_1 30 (by decide +kernel) rfl, List.forall_mem_cons.mpr ⟨zg_5 52 (by decide +kernel) rfl, fun _ h => nomatch h⟩⟩⟩⟩, ⟨by decide +kernel, by decide +kernel, by decide +kernel⟩, by decide⟩
theorem vX0_gaveTicket : zcV mX0_gaveTicket 0 := ⟨List.forall_mem_cons.mpr ⟨zg_5 187 (by decide +kernel) rfl, List.forall_mem_cons.mpr ⟨zg_5 188 (by decide +kernel) rfl, List.forall_mem_cons.mpr ⟨zg_1 30 (by decide +kernel) rfl, List.forall_mem_cons.mpr ⟨zg_5 189 (by decide +kernel) rfl, fun _ h => nomatch h⟩⟩⟩⟩, ⟨by decide +kernel, by decide +kernel, by decide +kernel⟩, by decide⟩
theorem vX0_isOpen : zcV mX0_isOpen 0 := ⟨List.forall_mem_cons.mpr ⟨zg_2 126 (by decide +kernel) rfl, List.forall_mem_cons.mpr ⟨zg_2 127 (by decide +kernel) rfl, List.forall_mem_cons.mpr ⟨zg_1 30 (by decide +kernel) rfl, List.forall_mem_cons.mpr ⟨zg_2 128 (by decide +kernel) rfl, fun _ h => nomatch h⟩⟩⟩⟩, ⟨by decide +kernel, by decide +kernel, by decide +kernel⟩, by decide⟩
theorem vX0_isGotInTime : zcV mX0_isGotInTime 0 := ⟨List.forall_mem_cons.mpr ⟨zg_6 111 (by decide +kernel) rfl, List.forall_mem_cons.mpr ⟨zg_6 112 (by decide +kernel) rfl, List.forall_mem_cons.mpr ⟨zg_1 30 (by decide +kernel) rfl, List.forall_mem_cons.mpr ⟨zg_6 113 (by decide +kernel) rfl, fun _ h => nomatch h⟩⟩⟩⟩, ⟨by decide +kernel, by decide +kernel, by decide +kernel⟩, by decide⟩
theorem vX0_waitedDays : zcV mX0_waitedDays 0 := ⟨List.forall_mem_cons.mpr ⟨zg_6 126 (by decide +kernel) rfl, List.forall_mem_cons.mpr ⟨zg_6 127 (by decide +kernel) rfl, List.forall_mem_cons.mpr ⟨zg_1 30 (by decide +kernel) rfl, List.forall_mem_cons.mpr ⟨zg_6 128 (by decide +kernel) rfl, fun _ h => nomatch h⟩⟩⟩⟩, ⟨by decide +kernel, by decide +kernel, by decide +kernel⟩, by decide⟩
theorem iX1_init : zcI mX1_init 0 := ⟨List.forall_mem_cons.mpr ⟨zg_5 220 (by decide +kernel) rfl, List.forall_mem_cons.mpr ⟨zg_1 33 (by decide +kernel) rfl, List.forall_mem_cons.mpr ⟨zg_5 221 (by decide +kernel) rfl, fun _ h => nomatch h⟩⟩⟩, ⟨by decide +kernel, by decide +kernel, by decide +kernel⟩, by decide, rfl, rfl⟩
theorem vX1_isValidOn : zcV mX1_isValidOn 1 := ⟨List.forall_mem_cons.mpr ⟨zg_4 147 (by decide +kernel) rfl, List.forall_mem_cons.mpr ⟨zg_4 148 (by decide +kernel) rfl, List.forall_mem_cons.mpr ⟨zg_1 33 (by decide +kernel) rfl, List.forall_mem_cons.mpr ⟨zg_4 149 (by decide +kernel) rfl, fun _ h => nomatch h⟩⟩⟩⟩, ⟨by decide +kernel, by decide +kernel, by decide +kernel⟩, by decide⟩
theorem vX1_copyFrom : zcV mX1_copyFrom 1 := ⟨List.forall_mem_cons.mpr ⟨zg_6 107 (by decide +kernel) rfl, List.forall_mem_cons.mpr ⟨zg_6 108 (by decide +kernel) rfl, List.forall_mem_cons.mpr ⟨zg_1 33 (by decide +kernel) rfl, List.forall_mem_cons.mpr ⟨zg_6 109 (by decide +kernel) rfl, fun _ h => nomatch h⟩⟩⟩⟩, ⟨by decide +kernel, by decide +kernel, by decide +kernel⟩, by decide⟩
theorem iX2_init : zcI mX2_init 0 := ⟨List.forall_mem_cons.mpr ⟨zg_1 161 (by decide +kernel) rfl, List.forall_mem_cons.mpr ⟨zg_1 8 (by decide +kernel) rfl, List.forall_mem_cons.mpr ⟨zg_1 162 (by decide +kernel) rfl, fun _ h => nomatch h⟩⟩⟩, ⟨by decide +kernel, by decide +kernel, by decide +kernel⟩, by decide, rfl, rfl⟩
theorem vX2_setHands : zcV mX2_setHands 2 := ⟨List.forall_mem_cons.mpr ⟨zg_5 64 (by decide +kernel) rfl, List.forall_mem_cons.mpr ⟨zg_5 65 (by decide +kernel) rfl, List.forall_mem_cons.mpr ⟨zg_1 8 (by decide +kernel) rfl, List.forall_mem_cons.mpr ⟨zg_5 66 (by decide +kernel) rfl, fun _ h => nomatch h⟩⟩⟩⟩, ⟨by decide +kernel, by decide +kernel, by decide +kernel⟩, by decide⟩
theorem vX2_unitsOn : zcV mX2_unitsOn 2 := ⟨List.forall_mem_cons.mpr ⟨zg_5 105 (by decide +kernel) rfl, List.forall_mem_cons.mpr ⟨zg_5 106 (by decide +kernel) rfl, List.forall_mem_cons.mpr ⟨zg_1 8 (by decide +kernel) rfl, List.forall_mem_cons.mpr ⟨zg_5 107 (by decide +kernel) rfl, fun _ h => nomatch h⟩⟩⟩⟩, ⟨by decide +kernel, by decide +kernel, by decide +kernel⟩, by decide⟩
theorem iX3_init : zcI mX3_init 2 := ⟨List.forall_mem_cons.mpr ⟨zg_1 76 (by decide +kernel) rfl, List.forall_mem_cons.mpr ⟨zg_1 5 (by decide +kernel) rfl, List.forall_mem_cons.mpr ⟨zg_1 77 (by decide +kernel) rfl, fun _ h => nomatch h⟩⟩⟩, ⟨by decide +kernel, by decide +kernel, by decide +kernel⟩, by decide, rfl, rfl⟩
theorem vX3_verdictOn : zcV mX3_verdictOn 1 := ⟨List.forall_mem_cons.mpr ⟨zg_2 237 (by decide +kernel) rfl, List.forall_mem_cons.mpr ⟨zg_2 238 (by decide +kernel) rfl, List.forall_mem_cons.mpr ⟨zg_1 5 (by decide +kernel) rfl, List.forall_mem_cons.mpr ⟨zg_2 239 (by decide +kernel) rfl, fun _ h => nomatch h⟩⟩⟩⟩, ⟨by decide +kernel, by decide +kernel, by decide +kernel⟩, by decide⟩
theorem vX3_fail : zcV mX3_fail 0 := ⟨List.forall_mem_cons.mpr ⟨zg_3 64 (by decide +kernel) rfl, List.forall_mem_cons.mpr ⟨zgood_in 7 (by decide +kernel) rfl, List.forall_mem_cons.mpr ⟨zg_1 5 (by decide +kernel) rfl, List.forall_mem_cons.mpr ⟨zg_3 65 (by decide +kernel) rfl, fun _ h => nomatch h⟩⟩⟩⟩, ⟨by decide +kernel, by decide +kernel, by decide +kernel⟩, by decide⟩
theorem vX3_advance : zcV mX3_advance 0 := ⟨List.forall_mem_cons.mpr ⟨zg_3 2 (by decide +kernel) rfl, List.forall_mem_cons.mpr ⟨zgood_in 4 (by decide +kernel) rfl, List.forall_mem_cons.mpr ⟨zg_1 5 (by decide +kernel) rfl, List.forall_mem_cons.mpr ⟨zg_3 3 (by decide +kernel) rfl, fun _ h => nomatch h⟩⟩⟩⟩, ⟨by decide +kernel, by decide +kernel, by decide +kernel⟩, by decide⟩
theorem sX3_thingOf : zcS mX3_thingOf 1 := ⟨List.forall_mem_cons.mpr ⟨zg_3 5 (by decide +kernel) rfl, List.forall_mem_cons.mpr ⟨zg_1 5 (by decide +kernel) rfl, List.forall_mem_cons.mpr ⟨zg_3 6 (by decide +kernel) rfl, fun _ h => nomatch h⟩⟩⟩, ⟨by decide +kernel, by decide +kernel, by decide +kernel⟩, by decide⟩
theorem vX3_isSign : zcV mX3_isSign 1 := ⟨List.forall_mem_cons.mpr ⟨zg_3 95 (by decide +kernel) rfl, List.forall_mem_cons.mpr ⟨zgood_in 14 (by decide +kernel) rfl, List.forall_mem_cons.mpr ⟨zg_1 5 (by decide +kernel) rfl, List.forall_mem_cons.mpr ⟨zg_3 96 (by decide +kernel) rfl, fun _ h => nomatch h⟩⟩⟩⟩, ⟨by decide +kernel, by decide +kernel, by decide +kernel⟩, by decide⟩
theorem vX3_isWord : zcV mX3_isWord 1 := ⟨List.forall_mem_cons.mpr ⟨zg_3 78 (by decide +kernel) rfl, List.forall_mem_cons.mpr ⟨zgood_in 10 (by decide +kernel) rfl, List.forall_mem_cons.mpr ⟨zg_1 5 (by decide +kernel) rfl, List.forall_mem_cons.mpr ⟨zg_3 79 (by decide +kernel) rfl, fun _ h => nomatch h⟩⟩⟩⟩, ⟨by decide +kernel, by decide +kernel, by decide +kernel⟩, by decide⟩
theorem vX3_numberAmong : zcV mX3_numberAmong 1 := ⟨List.forall_mem_cons.mpr ⟨zg_3 14 (by decide +kernel) rfl, List.forall_mem_cons.mpr ⟨zgood_in 6 (by decide +kernel) rfl, List.forall_mem_cons.mpr ⟨zg_1 5 (by decide +kernel) rfl, List.forall_mem_cons.mpr ⟨zg_3 15 (by decide +kernel) rfl, fun _ h => nomatch h⟩⟩⟩⟩, ⟨by decide +kernel, by decide +kernel, by decide +kernel⟩, by decide⟩
theorem vX3_readClause : zcV mX3_readClause 0 := ⟨List.forall_mem_cons.mpr ⟨zg_3 9 (by decide +kernel) rfl, List.forall_mem_cons.mpr ⟨zgood_in 5 (by decide +kernel) rfl, List.forall_mem_cons.mpr ⟨zg_1 5 (by decide +kernel) rfl, List.forall_mem_cons.mpr ⟨zg_3 10 (by decide +kernel) rfl, fun _ h => nomatch h⟩⟩⟩⟩, ⟨by decide +kernel, by decide +kernel, by decide +kernel⟩, by decide⟩
theorem vX3_readItem : zcV mX3_readItem 0 := ⟨List.forall_mem_cons.mpr ⟨zg_3 68 (by decide +kernel) rfl, List.forall_mem_cons.mpr ⟨zgood_in 8 (by decide +kernel) rfl, List.forall_mem_cons.mpr ⟨zg_1 5 (by decide +kernel) rfl, List.forall_mem_cons.mpr ⟨zg_3 69 (by decide +kernel) rfl, fun _ h => nomatch h⟩⟩⟩⟩, ⟨by decide +kernel, by decide +kernel, by decide +kernel⟩, by decide⟩
theorem vX3_readNumber : zcV mX3_readNumber 0 := ⟨List.forall_mem_cons.mpr ⟨zg_3 73 (by decide +kernel) rfl, List.forall_mem_cons.mpr ⟨zgood_in 9 (by decide +kernel) rfl, List.forall_mem_cons.mpr ⟨zg_1 5 (by decide +kernel) rfl, List.forall_mem_cons.mpr ⟨zg_3 74 (by decide +kernel) rfl, fun _ h => nomatch h⟩⟩⟩⟩, ⟨by decide +kernel, by decide +kernel, by decide +kernel⟩, by decide⟩
theorem vX3_readAny : zcV mX3_readAny 1 := ⟨List.forall_mem_cons.mpr ⟨zg_3 82 (by decide +kernel) rfl, List.forall_mem_cons.mpr ⟨zgood_in 11 (by decide +kernel) rfl, List.forall_mem_cons.mpr ⟨zg_1 5 (by decide +kernel) rfl, List.forall_mem_cons.mpr ⟨zg_3 83 (by decide +kernel) rfl, fun _ h => nomatch h⟩⟩⟩⟩, ⟨by decide +kernel, by decide +kernel, by decide +kernel⟩, by decide⟩
theorem vX3_readAll : zcV mX3_readAll 1 := ⟨List.forall_mem_cons.mpr ⟨zg_3 86 (by decide +kernel) rfl, List.forall_mem_cons.mpr ⟨zgood_in 12 (by decide +kernel) rfl, List.forall_mem_cons.mpr ⟨zg_1 5 (by decide +kernel) rfl, List.forall_mem_cons.mpr ⟨zg_3 87 (by decide +kernel) rfl, fun _ h => nomatch h⟩⟩⟩⟩, ⟨by decide +kernel, by decide +kernel, by decide +kernel⟩, by decide⟩
theorem vX3_readAtom : zcV mX3_readAtom 1 := ⟨List.forall_mem_cons.mpr ⟨zg_3 90 (by decide +kernel) rfl, List.forall_mem_cons.mpr ⟨zgood_in 13 (by decide +kernel) rfl, List.forall_mem_cons.mpr ⟨zg_1 5 (by decide +kernel) rfl, List.forall_mem_cons.mpr ⟨zg_3 91 (by decide +kernel) rfl, fun _ h => nomatch h⟩⟩⟩⟩, ⟨by decide +kernel, by decide +kernel, by decide +kernel⟩, by decide⟩
theorem vX3_readFact : zcV mX3_readFact 0 := ⟨List.forall_mem_cons.mpr ⟨zg_3 99 (by decide +kernel) rfl, List.forall_mem_cons.mpr ⟨zgood_in 15 (by decide +kernel) rfl, List.forall_mem_cons.mpr ⟨zg_1 5 (by decide +kernel) rfl, List.forall_mem_cons.mpr ⟨zg_3 100 (by decide +kernel) rfl, fun _ h => nomatch h⟩⟩⟩⟩, ⟨by decide +kernel, by decide +kernel, by decide +kernel⟩, by decide⟩
theorem iX4_init : zcI mX4_init 5 := ⟨List.forall_mem_cons.mpr ⟨zg_5 77 (by decide +kernel) rfl, List.forall_mem_cons.mpr ⟨zg_1 32 (by decide +kernel) rfl, List.forall_mem_cons.mpr ⟨zg_5 78 (by decide +kernel) rfl, fun _ h => nomatch h⟩⟩⟩, ⟨by decide +kernel, by decide +kernel, by decide +kernel⟩, by decide, rfl, rfl⟩
theorem vX4_unitsOn : zcV mX4_unitsOn 1 := ⟨List.forall_mem_cons.mpr ⟨zg_5 112 (by decide +kernel) rfl, List.forall_mem_cons.mpr ⟨zg_5 113 (by decide +kernel) rfl, List.forall_mem_cons.mpr ⟨zg_1 32 (by decide +kernel) rfl, List.forall_mem_cons.mpr ⟨zg_5 114 (by decide +kernel) rfl, fun _ h => nomatch h⟩⟩⟩⟩, ⟨by decide +kernel, by decide +kernel, by decide +kernel⟩, by decide⟩
theorem iX5_init : zcI mX5_init 1 := ⟨List.forall_mem_cons.mpr ⟨zg_4 34 (by decide +kernel) rfl, List.forall_mem_cons.mpr ⟨zg_1 28 (by decide +kernel) rfl, List.forall_mem_cons.mpr ⟨zg_4 35 (by decide +kernel) rfl, fun _ h => nomatch h⟩⟩⟩, ⟨by decide +kernel, by decide +kernel, by decide +kernel⟩, by decide, rfl, rfl⟩
theorem sX5_firstWrong : zcS mX5_firstWrong 1 := ⟨List.forall_mem_cons.mpr ⟨zg_4 18 (by decide +kernel) rfl, List.forall_mem_cons.mpr ⟨zg_1 28 (by decide +kernel) rfl, List.forall_mem_cons.mpr ⟨zg_4 19 (by decide +kernel) rfl, fun _ h => nomatch h⟩⟩⟩, ⟨by decide +kernel, by decide +kernel, by decide +kernel⟩, by decide⟩
theorem sX5_isGap : zcS mX5_isGap 1 := ⟨List.forall_mem_cons.mpr ⟨zg_4 21 (by decide +kernel) rfl, List.forall_mem_cons.mpr ⟨zg_1 28 (by decide +kernel) rfl, List.forall_mem_cons.mpr ⟨zg_4 22 (by decide +kernel) rfl, fun _ h => nomatch h⟩⟩⟩, ⟨by decide +kernel, by decide +kernel, by decide +kernel⟩, by decide⟩
theorem sX5_isLetter : zcS mX5_isLetter 1 := ⟨List.forall_mem_cons.mpr ⟨zg_4 24 (by decide +kernel) rfl, List.forall_mem_cons.mpr ⟨zg_1 28 (by decide +kernel) rfl, List.forall_mem_cons.mpr ⟨zg_4 25 (by decide +kernel) rfl, fun _ h => nomatch h⟩⟩⟩, ⟨by decide +kernel, by decide +kernel, by decide +kernel⟩, by decide⟩
theorem sX5_markedNumber : zcS mX5_markedNumber 1 := ⟨List.forall_mem_cons.mpr ⟨zg_4 27 (by decide +kernel) rfl, List.forall_mem_cons.mpr ⟨zg_1 28 (by decide +kernel) rfl, List.forall_mem_cons.mpr ⟨zg_4 28 (by decide +kernel) rfl, fun _ h => nomatch h⟩⟩⟩, ⟨by decide +kernel, by decide +kernel, by decide +kernel⟩, by decide⟩
theorem vX5_write : zcV mX5_write 1 := ⟨List.forall_mem_cons.mpr ⟨zg_4 42 (by decide +kernel) rfl, List.forall_mem_cons.mpr ⟨zgood_in 20 (by decide +kernel) rfl, List.forall_mem_cons.mpr ⟨zg_1 28 (by decide +kernel) rfl, List.forall_mem_cons.mpr ⟨zg_4 43 (by decide +kernel) rfl, fun _ h => nomatch h⟩⟩⟩⟩, ⟨by decide +kernel, by decide +kernel, by decide +kernel⟩, by decide⟩
theorem vX5_append : zcV mX5_append 1 := ⟨List.forall_mem_cons.mpr ⟨zg_4 50 (by decide +kernel) rfl, List.forall_mem_cons.mpr ⟨zgood_in 21 (by decide +kernel) rfl, List.forall_mem_cons.mpr ⟨zg_1 28 (by decide +kernel) rfl, List.forall_mem_cons.mpr ⟨zg_4 51 (by decide +kernel) rfl, fun _ h => nomatch h⟩⟩⟩⟩, ⟨by decide +kernel, by decide +kernel, by decide +kernel⟩, by decide⟩
theorem vX5_checkFigure : zcV mX5_checkFigure 0 := ⟨List.forall_mem_cons.mpr ⟨zg_4 76 (by decide +kernel) rfl, List.forall_mem_cons.mpr ⟨zg_4 77 (by decide +kernel) rfl, List.forall_mem_cons.mpr ⟨zg_1 28 (by decide +kernel) rfl, List.forall_mem_cons.mpr ⟨zg_4 78 (by decide +kernel) rfl, fun _ h => nomatch h⟩⟩⟩⟩, ⟨by decide +kernel, by decide +kernel, by decide +kernel⟩, by decide⟩
theorem iX6_init : zcI mX6_init 3 := ⟨List.forall_mem_cons.mpr ⟨zg_1 219 (by decide +kernel) rfl, List.forall_mem_cons.mpr ⟨zg_1 10 (by decide +kernel) rfl, List.forall_mem_cons.mpr ⟨zg_1 220 (by decide +kernel) rfl, fun _ h => nomatch h⟩⟩⟩, ⟨by decide +kernel, by decide +kernel, by decide +kernel⟩, by decide, rfl, rfl⟩
theorem vX6_copyFrom : zcV mX6_copyFrom 1 := ⟨List.forall_mem_cons.mpr ⟨zg_6 85 (by decide +kernel) rfl, List.forall_mem_cons.mpr ⟨zg_6 86 (by decide +kernel) rfl, List.forall_mem_cons.mpr ⟨zg_1 10 (by decide +kernel) rfl, List.forall_mem_cons.mpr ⟨zg_6 87 (by decide +kernel) rfl, fun _ h => nomatch h⟩⟩⟩⟩, ⟨by decide +kernel, by decide +kernel, by decide +kernel⟩, by decide⟩
theorem vX6_copyAskings : zcV mX6_copyAskings 1 := ⟨List.forall_mem_cons.mpr ⟨zg_6 90 (by decide +kernel) rfl, List.forall_mem_cons.mpr ⟨zgood_in 38 (by decide +kernel) rfl, List.forall_mem_cons.mpr ⟨zg_1 10 (by decide +kernel) rfl, List.forall_mem_cons.mpr ⟨zg_6 91 (by decide +kernel) rfl, fun _ h => nomatch h⟩⟩⟩⟩, ⟨by decide +kernel, by decide +kernel, by decide +kernel⟩, by decide⟩
theorem vX6_copyBooklets : zcV mX6_copyBooklets 1 := ⟨List.forall_mem_cons.mpr ⟨zg_6 104 (by decide +kernel) rfl, List.forall_mem_cons.mpr ⟨zgood_in 39 (by decide +kernel) rfl, List.forall_mem_cons.mpr ⟨zg_1 10 (by decide +kernel) rfl, List.forall_mem_cons.mpr ⟨zg_6 105 (by decide +kernel) rfl, fun _ h => nomatch h⟩⟩⟩⟩, ⟨by decide +kernel, by decide +kernel, by decide +kernel⟩, by decide⟩
theorem vX6_newBooklet : zcV mX6_newBooklet 0 := ⟨List.forall_mem_cons.mpr ⟨zg_5 216 (by decide +kernel) rfl, List.forall_mem_cons.mpr ⟨zgood_in 37 (by decide +kernel) rfl, List.forall_mem_cons.mpr ⟨zg_1 10 (by decide +kernel) rfl, List.forall_mem_cons.mpr ⟨zg_5 217 (by decide +kernel) rfl, fun _ h => nomatch h⟩⟩⟩⟩, ⟨by decide +kernel, by decide +kernel, by decide +kernel⟩, by decide⟩
theorem vX6_bookletAt : zcV mX6_bookletAt 1 := ⟨List.forall_mem_cons.mpr ⟨zg_2 93 (by decide +kernel) rfl, List.forall_mem_cons.mpr ⟨zg_2 94 (by decide +kernel) rfl, List.forall_mem_cons.mpr ⟨zg_1 10 (by decide +kernel) rfl, List.forall_mem_cons.mpr ⟨zg_2 95 (by decide +kernel) rfl, fun _ h => nomatch h⟩⟩⟩⟩, ⟨by decide +kernel, by decide +kernel, by decide +kernel⟩, by decide⟩
theorem vX6_countIn : zcV mX6_countIn 1 := ⟨List.forall_mem_cons.mpr ⟨zg_2 130 (by decide +kernel) rfl, List.forall_mem_cons.mpr ⟨zg_2 131 (by decide +kernel) rfl, List.forall_mem_cons.mpr ⟨zg_1 10 (by decide +kernel) rfl, List.forall_mem_cons.mpr ⟨zg_2 132 (by decide +kernel) rfl, fun _ h => nomatch h⟩⟩⟩⟩, ⟨by decide +kernel, by decide +kernel, by decide +kernel⟩, by decide⟩
theorem vX6_countOpen : zcV mX6_countOpen 0 := ⟨List.forall_mem_cons.mpr ⟨zg_2 121 (by decide +kernel) rfl, List.forall_mem_cons.mpr ⟨zg_2 122 (by decide +kernel) rfl, List.forall_mem_cons.mpr ⟨zg_1 10 (by decide +kernel) rfl, List.forall_mem_cons.mpr ⟨zg_2 123 (by decide +kernel) rfl, fun _ h => nomatch h⟩⟩⟩⟩, ⟨by decide +kernel, by decide +kernel, by decide +kernel⟩, by decide⟩
theorem vX6_validOf : zcV mX6_validOf 2 := ⟨List.forall_mem_cons.mpr ⟨zg_4 143 (by decide +kernel) rfl, List.forall_mem_cons.mpr ⟨zg_4 144 (by decide +kernel) rfl, List.forall_mem_cons.mpr ⟨zg_1 10 (by decide +kernel) rfl, List.forall_mem_cons.mpr ⟨zg_4 145 (by decide +kernel) rfl, fun _ h => nomatch h⟩⟩⟩⟩, ⟨by decide +kernel, by decide +kernel, by decide +kernel⟩, by decide⟩
theorem vX6_countEnds : zcV mX6_countEnds 2 := ⟨List.forall_mem_cons.mpr ⟨zg_2 89 (by decide +kernel) rfl, List.forall_mem_cons.mpr ⟨zg_2 90 (by decide +kernel) rfl, List.forall_mem_cons.mpr ⟨zg_1 10 (by decide +kernel) rfl, List.forall_mem_cons.mpr ⟨zg_2 91 (by decide +kernel) rfl, fun _ h => nomatch h⟩⟩⟩⟩, ⟨by decide +kernel, by decide +kernel, by decide +kernel⟩, by decide⟩
theorem vX6_countAhead : zcV mX6_countAhead 1 := ⟨List.forall_mem_cons.mpr ⟨zg_6 56 (by decide +kernel) rfl, List.forall_mem_cons.mpr ⟨zg_6 57 (by decide +kernel) rfl, List.forall_mem_cons.mpr ⟨zg_1 10 (by decide +kernel) rfl, List.forall_mem_cons.mpr ⟨zg_6 58 (by decide +kernel) rfl, fun _ h => nomatch h⟩⟩⟩⟩, ⟨by decide +kernel, by decide +kernel, by decide +kernel⟩, by decide⟩
theorem sX6_deskOf : zcS mX6_deskOf 1 := ⟨List.forall_mem_cons.mpr ⟨zg_6 60 (by decide +kernel) rfl, List.forall_mem_cons.mpr ⟨zg_1 10 (by decide +kernel) rfl, List.forall_mem_cons.mpr ⟨zg_6 61 (by decide +kernel) rfl, fun _ h => nomatch h⟩⟩⟩, ⟨by decide +kernel, by decide +kernel, by decide +kernel⟩, by decide⟩
theorem vX6_isAhead : zcV mX6_isAhead 2 := ⟨List.forall_mem_cons.mpr ⟨zg_5 184 (by decide +kernel) rfl, List.forall_mem_cons.mpr ⟨zgood_in 31 (by decide +kernel) rfl, List.forall_mem_cons.mpr ⟨zg_1 10 (by decide +kernel) rfl, List.forall_mem_cons.mpr ⟨zg_5 185 (by decide +kernel) rfl, fun _ h => nomatch h⟩⟩⟩⟩, ⟨by decide +kernel, by decide +kernel, by decide +kernel⟩, by decide⟩
theorem vX6_firstIn : zcV mX6_firstIn 1 := ⟨List.forall_mem_cons.mpr ⟨zg_5 180 (by decide +kernel) rfl, List.forall_mem_cons.mpr ⟨zgood_in 30 (by decide +kernel) rfl, List.forall_mem_cons.mpr ⟨zg_1 10 (by decide +kernel) rfl, List.forall_mem_cons.mpr ⟨zg_5 181 (by decide +kernel) rfl, fun _ h => nomatch h⟩⟩⟩⟩, ⟨by decide +kernel, by decide +kernel, by decide +kernel⟩, by decide⟩
theorem vX6_passDay : zcV mX6_passDay 0 := ⟨List.forall_mem_cons.mpr ⟨zg_5 155 (by decide +kernel) rfl, List.forall_mem_cons.mpr ⟨zg_5 156 (by decide +kernel) rfl, List.forall_mem_cons.mpr ⟨zg_1 10 (by decide +kernel) rfl, List.forall_mem_cons.mpr ⟨zg_5 157 (by decide +kernel) rfl, fun _ h => nomatch h⟩⟩⟩⟩, ⟨by decide +kernel, by decide +kernel, by decide +kernel⟩, by decide⟩
theorem vX6_takePost : zcV mX6_takePost 0 := ⟨List.forall_mem_cons.mpr ⟨zg_5 160 (by decide +kernel) rfl, List.forall_mem_cons.mpr ⟨zgood_in 26 (by decide +kernel) rfl, List.forall_mem_cons.mpr ⟨zg_1 10 (by decide +kernel) rfl, List.forall_mem_cons.mpr ⟨zg_5 161 (by decide +kernel) rfl, fun _ h => nomatch h⟩⟩⟩⟩, ⟨by decide +kernel, by decide +kernel, by decide +kernel⟩, by decide⟩
theorem vX6_countCalls : zcV mX6_countCalls 0 := ⟨List.forall_mem_cons.mpr ⟨zg_5 168 (by decide +kernel) rfl, List.forall_mem_cons.mpr ⟨zgood_in 28 (by decide +kernel) rfl, List.forall_mem_cons.mpr ⟨zg_1 10 (by decide +kernel) rfl, List.forall_mem_cons.mpr ⟨zg_5 169 (by decide +kernel) rfl, fun _ h => nomatch h⟩⟩⟩⟩, ⟨by decide +kernel, by decide +kernel, by decide +kernel⟩, by decide⟩
theorem vX6_workAt : zcV mX6_workAt 1 := ⟨List.forall_mem_cons.mpr ⟨zg_5 172 (by decide +kernel) rfl, List.forall_mem_cons.mpr ⟨zgood_in 29 (by decide +kernel) rfl, List.forall_mem_cons.mpr ⟨zg_1 10 (by decide +kernel) rfl, List.forall_mem_cons.mpr ⟨zg_5 173 (by decide +kernel) rfl, fun _ h => nomatch h⟩⟩⟩⟩, ⟨by decide +kernel, by decide +kernel, by decide +kernel⟩, by decide⟩
theorem sX6_unitsFor : zcS mX6_unitsFor 2 := ⟨List.forall_mem_cons.mpr ⟨zg_5 191 (by decide +kernel) rfl, List.forall_mem_cons.mpr ⟨zg_1 10 (by decide +kernel) rfl, List.forall_mem_cons.mpr ⟨zg_5 192 (by decide +kernel) rfl, fun _ h => nomatch h⟩⟩⟩, ⟨by decide +kernel, by decide +kernel, by decide +kernel⟩, by decide⟩
theorem vX6_canPrint : zcV mX6_canPrint 0 := ⟨List.forall_mem_cons.mpr ⟨zg_5 195 (by decide +kernel) rfl, List.forall_mem_cons.mpr ⟨zgood_in 32 (by decide +kernel) rfl, List.forall_mem_cons.mpr ⟨zg_1 10 (by decide +kernel) rfl, List.forall_mem_cons.mpr ⟨zg_5 196 (by decide +kernel) rfl, fun _ h => nomatch h⟩⟩⟩⟩, ⟨by decide +kernel, by decide +kernel, by decide +kernel⟩, by decide⟩
theorem vX6_serve : zcV mX6_serve 2 := ⟨List.forall_mem_cons.mpr ⟨zg_5 199 (by decide +kernel) rfl, List.forall_mem_cons.mpr ⟨zgood_in 33 (by decide +kernel) rfl, List.forall_mem_cons.mpr ⟨zg_1 10 (by decide +kernel) rfl, List.forall_mem_cons.mpr ⟨zg_5 200 (by decide +kernel) rfl, fun _ h => nomatch h⟩⟩⟩⟩, ⟨by decide +kernel, by decide +kernel, by decide +kernel⟩, by decide⟩
theorem vX6_read : zcV mX6_read 1 := ⟨List.forall_mem_cons.mpr ⟨zg_5 203 (by decide +kernel) rfl, List.forall_mem_cons.mpr ⟨zgood_in 34 (by decide +kernel) rfl, List.forall_mem_cons.mpr ⟨zg_1 10 (by decide +kernel) rfl, List.forall_mem_cons.mpr ⟨zg_5 204 (by decide +kernel) rfl, fun _ h => nomatch h⟩⟩⟩⟩, ⟨by decide +kernel, by decide +kernel, by decide +kernel⟩, by decide⟩
theorem vX6_check : zcV mX6_check 1 := ⟨List.forall_mem_cons.mpr ⟨zg_4 109 (by decide +kernel) rfl, List.forall_mem_cons.mpr ⟨zgood_in 22 (by decide +kernel) rfl, List.forall_mem_cons.mpr ⟨zg_1 10 (by decide +kernel) rfl, List.forall_mem_cons.mpr ⟨zg_4 110 (by decide +kernel) rfl, fun _ h => nomatch h⟩⟩⟩⟩, ⟨by decide +kernel, by decide +kernel, by decide +kernel⟩, by decide⟩
theorem vX6_checkHeldAgain : zcV mX6_checkHeldAgain 0 := ⟨List.forall_mem_cons.mpr ⟨zg_4 104 (by decide +kernel) rfl, List.forall_mem_cons.mpr ⟨zg_4 105 (by decide +kernel) rfl, List.forall_mem_cons.mpr ⟨zg_1 10 (by decide +kernel) rfl, List.forall_mem_cons.mpr ⟨zg_4 106 (by decide +kernel) rfl, fun _ h => nomatch h⟩⟩⟩⟩, ⟨by decide +kernel, by decide +kernel, by decide +kernel⟩, by decide⟩
theorem vX6_print : zcV mX6_print 1 := ⟨List.forall_mem_cons.mpr ⟨zg_5 208 (by decide +kernel) rfl, List.forall_mem_cons.mpr ⟨zgood_in 35 (by decide +kernel) rfl, List.forall_mem_cons.mpr ⟨zg_1 10 (by decide +kernel) rfl, List.forall_mem_cons.mpr ⟨zg_5 209 (by decide +kernel) rfl, fun _ h => nomatch h⟩⟩⟩⟩, ⟨by decide +kernel, by decide +kernel, by decide +kernel⟩, by decide⟩
theorem vX6_endValidOnes : zcV mX6_endValidOnes 1 := ⟨List.forall_mem_cons.mpr ⟨zg_5 212 (by decide +kernel) rfl, List.forall_mem_cons.mpr ⟨zgood_in 36 (by decide +kernel) rfl, List.forall_mem_cons.mpr ⟨zg_1 10 (by decide +kernel) rfl, List.forall_mem_cons.mpr ⟨zg_5 213 (by decide +kernel) rfl, fun _ h => nomatch h⟩⟩⟩⟩, ⟨by decide +kernel, by decide +kernel, by decide +kernel⟩, by decide⟩
theorem vX6_endBooklet : zcV mX6_endBooklet 1 := ⟨List.forall_mem_cons.mpr ⟨zg_6 23 (by decide +kernel) rfl, List.forall_mem_cons.mpr ⟨zg_6 24 (by decide +kernel) rfl, List.forall_mem_cons.mpr ⟨zg_1 10 (by decide +kernel) rfl, List.forall_mem_cons.mpr ⟨zg_6 25 (by decide +kernel) rfl, fun _ h => nomatch h⟩⟩⟩⟩, ⟨by decide +kernel, by decide +kernel, by decide +kernel⟩, by decide⟩
theorem vX6_arrive : zcV mX6_arrive 1 := ⟨List.forall_mem_cons.mpr ⟨zg_5 164 (by decide +kernel) rfl, List.forall_mem_cons.mpr ⟨zgood_in 27 (by decide +kernel) rfl, List.forall_mem_cons.mpr ⟨zg_1 10 (by decide +kernel) rfl, List.forall_mem_cons.mpr ⟨zg_5 165 (by decide +kernel) rfl, fun _ h => nomatch h⟩⟩⟩⟩, ⟨by decide +kernel, by decide +kernel, by decide +kernel⟩, by decide⟩
theorem iX7_init : zcI mX7_init 0 := ⟨List.forall_mem_cons.mpr ⟨zg_1 148 (by decide +kernel) rfl, List.forall_mem_cons.mpr ⟨zg_1 7 (by decide +kernel) rfl, List.forall_mem_cons.mpr ⟨zg_1 149 (by decide +kernel) rfl, fun _ h => nomatch h⟩⟩⟩, ⟨by decide +kernel, by decide +kernel, by decide +kernel⟩, by decide, rfl, rfl⟩
theorem vX7_isNearOne : zcV mX7_isNearOne 3 := ⟨List.forall_mem_cons.mpr ⟨zg_4 112 (by decide +kernel) rfl, List.forall_mem_cons.mpr ⟨zg_4 113 (by decide +kernel) rfl, List.forall_mem_cons.mpr ⟨zg_1 7 (by decide +kernel) rfl, List.forall_mem_cons.mpr ⟨zg_4 114 (by decide +kernel) rfl, fun _ h => nomatch h⟩⟩⟩⟩, ⟨by decide +kernel, by decide +kernel, by decide +kernel⟩, by decide⟩
theorem iX8_init : zcI mX8_init 4 := ⟨List.forall_mem_cons.mpr ⟨zg_3 201 (by decide +kernel) rfl, List.forall_mem_cons.mpr ⟨zg_1 25 (by decide +kernel) rfl, List.forall_mem_cons.mpr ⟨zg_3 202 (by decide +kernel) rfl, fun _ h => nomatch h⟩⟩⟩, ⟨by decide +kernel, by decide +kernel, by decide +kernel⟩, by decide, rfl, rfl⟩
theorem vX8_farFrom : zcV mX8_farFrom 1 := ⟨List.forall_mem_cons.mpr ⟨zg_4 89 (by decide +kernel) rfl, List.forall_mem_cons.mpr ⟨zg_4 90 (by decide +kernel) rfl, List.forall_mem_cons.mpr ⟨zg_1 25 (by decide +kernel) rfl, List.forall_mem_cons.mpr ⟨zg_4 91 (by decide +kernel) rfl, fun _ h => nomatch h⟩⟩⟩⟩, ⟨by decide +kernel, by decide +kernel, by decide +kernel⟩, by decide⟩
theorem vX8_putTold : zcV mX8_putTold 2 := ⟨List.forall_mem_cons.mpr ⟨zg_4 100 (by decide +kernel) rfl, List.forall_mem_cons.mpr ⟨zg_4 101 (by decide +kernel) rfl, List.forall_mem_cons.mpr ⟨zg_1 25 (by decide +kernel) rfl, List.forall_mem_cons.mpr ⟨zg_4 102 (by decide +kernel) rfl, fun _ h => nomatch h⟩⟩⟩⟩, ⟨by decide +kernel, by decide +kernel, by decide +kernel⟩, by decide⟩
theorem vX8_toldWith : zcV mX8_toldWith 1 := ⟨List.forall_mem_cons.mpr ⟨zg_4 119 (by decide +kernel) rfl, List.forall_mem_cons.mpr ⟨zg_4 120 (by decide +kernel) rfl, List.forall_mem_cons.mpr ⟨zg_1 25 (by decide +kernel) rfl, List.forall_mem_cons.mpr ⟨zg_4 121 (by decide +kernel) rfl, fun _ h => nomatch h⟩⟩⟩⟩, ⟨by decide +kernel, by decide +kernel, by decide +kernel⟩, by decide⟩
theorem iX9_init : zcI mX9_init 0 := ⟨List.forall_mem_cons.mpr ⟨zg_1 177 (by decide +kernel) rfl, List.forall_mem_cons.mpr ⟨zg_1 9 (by decide +kernel) rfl, List.forall_mem_cons.mpr ⟨zg_1 178 (by decide +kernel) rfl, fun _ h => nomatch h⟩⟩⟩, ⟨by decide +kernel, by decide +kernel, by decide +kernel⟩, by decide, rfl, rfl⟩
theorem iX10_init : zcI mX10_init 0 := ⟨List.forall_mem_cons.mpr ⟨zg_1 82 (by decide +kernel) rfl, List.forall_mem_cons.mpr ⟨zg_1 6 (by decide +kernel) rfl, List.forall_mem_cons.mpr ⟨zg_1 83 (by decide +kernel) rfl, fun _ h => nomatch h⟩⟩⟩, ⟨by decide +kernel, by decide +kernel, by decide +kernel⟩, by decide, rfl, rfl⟩
theorem vX10_take : zcV mX10_take 2 := ⟨List.forall_mem_cons.mpr ⟨zg_3 105 (by decide +kernel) rfl, List.forall_mem_cons.mpr ⟨zg_3 106 (by decide +kernel) rfl, List.forall_mem_cons.mpr ⟨zg_1 6 (by decide +kernel) rfl, List.forall_mem_cons.mpr ⟨zg_3 107 (by decide +kernel) rfl, fun _ h => nomatch h⟩⟩⟩⟩, ⟨by decide +kernel, by decide +kernel, by decide +kernel⟩, by decide⟩
theorem vX10_validYears : zcV mX10_validYears 0 := ⟨List.forall_mem_cons.mpr ⟨zg_4 151 (by decide +kernel) rfl, List.forall_mem_cons.mpr ⟨zg_4 152 (by decide +kernel) rfl, List.forall_mem_cons.mpr ⟨zg_1 6 (by decide +kernel) rfl, List.forall_mem_cons.mpr ⟨zg_4 153 (by decide +kernel) rfl, fun _ h => nomatch h⟩⟩⟩⟩, ⟨by decide +kernel, by decide +kernel, by decide +kernel⟩, by decide⟩
theorem iX11_init : zcI mX11_init 0 := ⟨List.forall_mem_cons.mpr ⟨zg_1 41 (by decide +kernel) rfl, List.forall_mem_cons.mpr ⟨zg_1 1 (by decide +kernel) rfl, List.forall_mem_cons.mpr ⟨zg_1 42 (by decide +kernel) rfl, fun _ h => nomatch h⟩⟩⟩, ⟨by decide +kernel, by decide +kernel, by decide +kernel⟩, by decide, rfl, rfl⟩
theorem vX11_feed : zcV mX11_feed 5 := ⟨List.forall_mem_cons.mpr ⟨zg_2 69 (by decide +kernel) rfl, List.forall_mem_cons.mpr ⟨zg_2 70 (by decide +kernel) rfl, List.forall_mem_cons.mpr ⟨zg_1 1 (by decide +kernel) rfl, List.forall_mem_cons.mpr ⟨zg_2 71 (by decide +kernel) rfl, fun _ h => nomatch h⟩⟩⟩⟩, ⟨by decide +kernel, by decide +kernel, by decide +kernel⟩, by decide⟩
theorem vX11_putBytes : zcV mX11_putBytes 1 := ⟨List.forall_mem_cons.mpr ⟨zg_2 74 (by decide +kernel) rfl, List.forall_mem_cons.mpr ⟨zgood_in 0 (by decide +kernel) rfl, List.forall_mem_cons.mpr ⟨zg_1 1 (by decide +kernel) rfl, List.forall_mem_cons.mpr ⟨zg_2 75 (by decide +kernel) rfl, fun _ h => nomatch h⟩⟩⟩⟩, ⟨by decide +kernel, by decide +kernel, by decide +kernel⟩, by decide⟩
theorem vX11_end : zcV mX11_end 1 := ⟨List.forall_mem_cons.mpr ⟨zg_2 77 (by decide +kernel) rfl, List.forall_mem_cons.mpr ⟨zg_2 78 (by decide +kernel) rfl, List.forall_mem_cons.mpr ⟨zg_1 1 (by decide +kernel) rfl, List.forall_mem_cons.mpr ⟨zg_2 79 (by decide +kernel) rfl, fun _ h => nomatch h⟩⟩⟩⟩, ⟨by decide +kernel, by decide +kernel, by decide +kernel⟩, by decide⟩
theorem vX11_useTapeUp : zcV mX11_useTapeUp 0 := ⟨List.forall_mem_cons.mpr ⟨zg_2 149 (by decide +kernel) rfl, List.forall_mem_cons.mpr ⟨zgood_in 2 (by decide +kernel) rfl, List.forall_mem_cons.mpr ⟨zg_1 1 (by decide +kernel) rfl, List.forall_mem_cons.mpr ⟨zg_2 150 (by decide +kernel) rfl, fun _ h => nomatch h⟩⟩⟩⟩, ⟨by decide +kernel, by decide +kernel, by decide +kernel⟩, by decide⟩
theorem vX11_law : zcV mX11_law 1 := ⟨List.forall_mem_cons.mpr ⟨zg_2 144 (by decide +kernel) rfl, List.forall_mem_cons.mpr ⟨zg_2 145 (by decide +kernel) rfl, List.forall_mem_cons.mpr ⟨zg_1 1 (by decide +kernel) rfl, List.forall_mem_cons.mpr ⟨zg_2 146 (by decide +kernel) rfl, fun _ h => nomatch h⟩⟩⟩⟩, ⟨by decide +kernel, by decide +kernel, by decide +kernel⟩, by decide⟩
theorem vX11_fault : zcV mX11_fault 0 := ⟨List.forall_mem_cons.mpr ⟨zg_2 81 (by decide +kernel) rfl, List.forall_mem_cons.mpr ⟨zg_2 82 (by decide +kernel) rfl, List.forall_mem_cons.mpr ⟨zg_1 1 (by decide +kernel) rfl, List.forall_mem_cons.mpr ⟨zg_2 83 (by decide +kernel) rfl, fun _ h => nomatch h⟩⟩⟩⟩, ⟨by decide +kernel, by decide +kernel, by decide +kernel⟩, by decide⟩
theorem vX11_lawOfToday : zcV mX11_lawOfToday 0 := ⟨List.forall_mem_cons.mpr ⟨zg_2 135 (by decide +kernel) rfl, List.forall_mem_cons.mpr ⟨zgood_in 1 (by decide +kernel) rfl, List.forall_mem_cons.mpr ⟨zg_1 1 (by decide +kernel) rfl, List.forall_mem_cons.mpr ⟨zg_2 136 (by decide +kernel) rfl, fun _ h => nomatch h⟩⟩⟩⟩, ⟨by decide +kernel, by decide +kernel, by decide +kernel⟩, by decide⟩
theorem vX11_person : zcV mX11_person 7 := ⟨List.forall_mem_cons.mpr ⟨zg_3 191 (by decide +kernel) rfl, List.forall_mem_cons.mpr ⟨zg_3 192 (by decide +kernel) rfl, List.forall_mem_cons.mpr ⟨zg_1 1 (by decide +kernel) rfl, List.forall_mem_cons.mpr ⟨zg_3 193 (by decide +kernel) rfl, fun _ h => nomatch h⟩⟩⟩⟩, ⟨by decide +kernel, by decide +kernel, by decide +kernel⟩, by decide⟩
theorem sX11_isFace : zcS mX11_isFace 1 := ⟨List.forall_mem_cons.mpr ⟨zg_3 196 (by decide +kernel) rfl, List.forall_mem_cons.mpr ⟨zg_1 1 (by decide +kernel) rfl, List.forall_mem_cons.mpr ⟨zg_3 197 (by decide +kernel) rfl, fun _ h => nomatch h⟩⟩⟩, ⟨by decide +kernel, by decide +kernel, by decide +kernel⟩, by decide⟩
theorem vX11_name : zcV mX11_name 1 := ⟨List.forall_mem_cons.mpr ⟨zg_3 235 (by decide +kernel) rfl, List.forall_mem_cons.mpr ⟨zg_3 236 (by decide +kernel) rfl, List.forall_mem_cons.mpr ⟨zg_1 1 (by decide +kernel) rfl, List.forall_mem_cons.mpr ⟨zg_3 237 (by decide +kernel) rfl, fun _ h => nomatch h⟩⟩⟩⟩, ⟨by decide +kernel, by decide +kernel, by decide +kernel⟩, by decide⟩
theorem vX11_sign : zcV mX11_sign 2 := ⟨List.forall_mem_cons.mpr ⟨zg_4 65 (by decide +kernel) rfl, List.forall_mem_cons.mpr ⟨zg_4 66 (by decide +kernel) rfl, List.forall_mem_cons.mpr ⟨zg_1 1 (by decide +kernel) rfl, List.forall_mem_cons.mpr ⟨zg_4 67 (by decide +kernel) rfl, fun _ h => nomatch h⟩⟩⟩⟩, ⟨by decide +kernel, by decide +kernel, by decide +kernel⟩, by decide⟩
theorem vX11_figure : zcV mX11_figure 1 := ⟨List.forall_mem_cons.mpr ⟨zg_4 72 (by decide +kernel) rfl, List.forall_mem_cons.mpr ⟨zg_4 73 (by decide +kernel) rfl, List.forall_mem_cons.mpr ⟨zg_1 1 (by decide +kernel) rfl, List.forall_mem_cons.mpr ⟨zg_4 74 (by decide +kernel) rfl, fun _ h => nomatch h⟩⟩⟩⟩, ⟨by decide +kernel, by decide +kernel, by decide +kernel⟩, by decide⟩
theorem vX11_far : zcV mX11_far 2 := ⟨List.forall_mem_cons.mpr ⟨zg_4 85 (by decide +kernel) rfl, List.forall_mem_cons.mpr ⟨zg_4 86 (by decide +kernel) rfl, List.forall_mem_cons.mpr ⟨zg_1 1 (by decide +kernel) rfl, List.forall_mem_cons.mpr ⟨zg_4 87 (by decide +kernel) rfl, fun _ h => nomatch h⟩⟩⟩⟩, ⟨by decide +kernel, by decide +kernel, by decide +kernel⟩, by decide⟩
theorem vX11_tell : zcV mX11_tell 3 := ⟨List.forall_mem_cons.mpr ⟨zg_4 96 (by decide +kernel) rfl, List.forall_mem_cons.mpr ⟨zg_4 97 (by decide +kernel) rfl, List.forall_mem_cons.mpr ⟨zg_1 1 (by decide +kernel) rfl, List.forall_mem_cons.mpr ⟨zg_4 98 (by decide +kernel) rfl, fun _ h => nomatch h⟩⟩⟩⟩, ⟨by decide +kernel, by decide +kernel, by decide +kernel⟩, by decide⟩
theorem vX11_judge : zcV mX11_judge 5 := ⟨List.forall_mem_cons.mpr ⟨zg_4 128 (by decide +kernel) rfl, List.forall_mem_cons.mpr ⟨zg_4 129 (by decide +kernel) rfl, List.forall_mem_cons.mpr ⟨zg_1 1 (by decide +kernel) rfl, List.forall_mem_cons.mpr ⟨zg_4 130 (by decide +kernel) rfl, fun _ h => nomatch h⟩⟩⟩⟩, ⟨by decide +kernel, by decide +kernel, by decide +kernel⟩, by decide⟩
theorem sX11_isKind : zcS mX11_isKind 1 := ⟨List.forall_mem_cons.mpr ⟨zg_4 132 (by decide +kernel) rfl, List.forall_mem_cons.mpr ⟨zg_1 1 (by decide +kernel) rfl, List.forall_mem_cons.mpr ⟨zg_4 133 (by decide +kernel) rfl, fun _ h => nomatch h⟩⟩⟩, ⟨by decide +kernel, by decide +kernel, by decide +kernel⟩, by decide⟩
theorem vX11_isWanted : zcV mX11_isWanted 1 := ⟨List.forall_mem_cons.mpr ⟨zg_4 136 (by decide +kernel) rfl, List.forall_mem_cons.mpr ⟨zgood_in 23 (by decide +kernel) rfl, List.forall_mem_cons.mpr ⟨zg_1 1 (by decide +kernel) rfl, List.forall_mem_cons.mpr ⟨zg_4 137 (by decide +kernel) rfl, fun _ h => nomatch h⟩⟩⟩⟩, ⟨by decide +kernel, by decide +kernel, by decide +kernel⟩, by decide⟩
theorem sX11_isItems : zcS mX11_isItems 1 := ⟨List.forall_mem_cons.mpr ⟨zg_4 177 (by decide +kernel) rfl, List.forall_mem_cons.mpr ⟨zg_1 1 (by decide +kernel) rfl, List.forall_mem_cons.mpr ⟨zg_4 178 (by decide +kernel) rfl, fun _ h => nomatch h⟩⟩⟩, ⟨by decide +kernel, by decide +kernel, by decide +kernel⟩, by decide⟩
theorem vX11_factsOf : zcV mX11_factsOf 4 := ⟨List.forall_mem_cons.mpr ⟨zg_4 140 (by decide +kernel) rfl, List.forall_mem_cons.mpr ⟨zgood_in 24 (by decide +kernel) rfl, List.forall_mem_cons.mpr ⟨zg_1 1 (by decide +kernel) rfl, List.forall_mem_cons.mpr ⟨zg_4 141 (by decide +kernel) rfl, fun _ h => nomatch h⟩⟩⟩⟩, ⟨by decide +kernel, by decide +kernel, by decide +kernel⟩, by decide⟩
theorem vX11_ask : zcV mX11_ask 5 := ⟨List.forall_mem_cons.mpr ⟨zg_4 173 (by decide +kernel) rfl, List.forall_mem_cons.mpr ⟨zg_4 174 (by decide +kernel) rfl, List.forall_mem_cons.mpr ⟨zg_1 1 (by decide +kernel) rfl, List.forall_mem_cons.mpr ⟨zg_4 175 (by decide +kernel) rfl, fun _ h => nomatch h⟩⟩⟩⟩, ⟨by decide +kernel, by decide +kernel, by decide +kernel⟩, by decide⟩
theorem vX11_give : zcV mX11_give 2 := ⟨List.forall_mem_cons.mpr ⟨zg_5 24 (by decide +kernel) rfl, List.forall_mem_cons.mpr ⟨zg_5 25 (by decide +kernel) rfl, List.forall_mem_cons.mpr ⟨zg_1 1 (by decide +kernel) rfl, List.forall_mem_cons.mpr ⟨zg_5 26 (by decide +kernel) rfl, fun _ h => nomatch h⟩⟩⟩⟩, ⟨by decide +kernel, by decide +kernel, by decide +kernel⟩, by decide⟩
theorem vX11_refuse : zcV mX11_refuse 1 := ⟨List.forall_mem_cons.mpr ⟨zg_6 11 (by decide +kernel) rfl, List.forall_mem_cons.mpr ⟨zg_6 12 (by decide +kernel) rfl, List.forall_mem_cons.mpr ⟨zg_1 1 (by decide +kernel) rfl, List.forall_mem_cons.mpr ⟨zg_6 13 (by decide +kernel) rfl, fun _ h => nomatch h⟩⟩⟩⟩, ⟨by decide +kernel, by decide +kernel, by decide +kernel⟩, by decide⟩
theorem vX11_lose : zcV mX11_lose 1 := ⟨List.forall_mem_cons.mpr ⟨zg_6 19 (by decide +kernel) rfl, List.forall_mem_cons.mpr ⟨zg_6 20 (by decide +kernel) rfl, List.forall_mem_cons.mpr ⟨zg_1 1 (by decide +kernel) rfl, List.forall_mem_cons.mpr ⟨zg_6 21 (by decide +kernel) rfl, fun _ h => nomatch h⟩⟩⟩⟩, ⟨by decide +kernel, by decide +kernel, by decide +kernel⟩, by decide⟩
theorem vX11_again : zcV mX11_again 1 := ⟨List.forall_mem_cons.mpr ⟨zg_6 30 (by decide +kernel) rfl, List.forall_mem_cons.mpr ⟨zg_6 31 (by decide +kernel) rfl, List.forall_mem_cons.mpr ⟨zg_1 1 (by decide +kernel) rfl, List.forall_mem_cons.mpr ⟨zg_6 32 (by decide +kernel) rfl, fun _ h => nomatch h⟩⟩⟩⟩, ⟨by decide +kernel, by decide +kernel, by decide +kernel⟩, by decide⟩
theorem vX11_led : zcV mX11_led 2 := ⟨List.forall_mem_cons.mpr ⟨zg_6 37 (by decide +kernel) rfl, List.forall_mem_cons.mpr ⟨zg_6 38 (by decide +kernel) rfl, List.forall_mem_cons.mpr ⟨zg_1 1 (by decide +kernel) rfl, List.forall_mem_cons.mpr ⟨zg_6 39 (by decide +kernel) rfl, fun _ h => nomatch h⟩⟩⟩⟩, ⟨by decide +kernel, by decide +kernel, by decide +kernel⟩, by decide⟩
theorem vX11_hands : zcV mX11_hands 2 := ⟨List.forall_mem_cons.mpr ⟨zg_5 57 (by decide +kernel) rfl, List.forall_mem_cons.mpr ⟨zg_5 58 (by decide +kernel) rfl, List.forall_mem_cons.mpr ⟨zg_1 1 (by decide +kernel) rfl, List.forall_mem_cons.mpr ⟨zg_5 59 (by decide +kernel) rfl, fun _ h => nomatch h⟩⟩⟩⟩, ⟨by decide +kernel, by decide +kernel, by decide +kernel⟩, by decide⟩
theorem vX11_lend : zcV mX11_lend 5 := ⟨List.forall_mem_cons.mpr ⟨zg_5 71 (by decide +kernel) rfl, List.forall_mem_cons.mpr ⟨zg_5 72 (by decide +kernel) rfl, List.forall_mem_cons.mpr ⟨zg_1 1 (by decide +kernel) rfl, List.forall_mem_cons.mpr ⟨zg_5 73 (by decide +kernel) rfl, fun _ h => nomatch h⟩⟩⟩⟩, ⟨by decide +kernel, by decide +kernel, by decide +kernel⟩, by decide⟩
theorem vX11_units : zcV mX11_units 2 := ⟨List.forall_mem_cons.mpr ⟨zg_5 101 (by decide +kernel) rfl, List.forall_mem_cons.mpr ⟨zg_5 102 (by decide +kernel) rfl, List.forall_mem_cons.mpr ⟨zg_1 1 (by decide +kernel) rfl, List.forall_mem_cons.mpr ⟨zg_5 103 (by decide +kernel) rfl, fun _ h => nomatch h⟩⟩⟩⟩, ⟨by decide +kernel, by decide +kernel, by decide +kernel⟩, by decide⟩
theorem vX11_rules : zcV mX11_rules 5 := ⟨List.forall_mem_cons.mpr ⟨zg_5 120 (by decide +kernel) rfl, List.forall_mem_cons.mpr ⟨zg_5 121 (by decide +kernel) rfl, List.forall_mem_cons.mpr ⟨zg_1 1 (by decide +kernel) rfl, List.forall_mem_cons.mpr ⟨zg_5 122 (by decide +kernel) rfl, fun _ h => nomatch h⟩⟩⟩⟩, ⟨by decide +kernel, by decide +kernel, by decide +kernel⟩, by decide⟩
theorem vX11_order : zcV mX11_order 1 := ⟨List.forall_mem_cons.mpr ⟨zg_5 127 (by decide +kernel) rfl, List.forall_mem_cons.mpr ⟨zg_5 128 (by decide +kernel) rfl, List.forall_mem_cons.mpr ⟨zg_1 1 (by decide +kernel) rfl, List.forall_mem_cons.mpr ⟨zg_5 129 (by decide +kernel) rfl, fun _ h => nomatch h⟩⟩⟩⟩, ⟨by decide +kernel, by decide +kernel, by decide +kernel⟩, by decide⟩
theorem sX11_isOrder : zcS mX11_isOrder 1 := ⟨List.forall_mem_cons.mpr ⟨zg_5 131 (by decide +kernel) rfl, List.forall_mem_cons.mpr ⟨zg_1 1 (by decide +kernel) rfl, List.forall_mem_cons.mpr ⟨zg_5 132 (by decide +kernel) rfl, fun _ h => nomatch h⟩⟩⟩, ⟨by decide +kernel, by decide +kernel, by decide +kernel⟩, by decide⟩
theorem vX11_blanks : zcV mX11_blanks 1 := ⟨List.forall_mem_cons.mpr ⟨zg_5 137 (by decide +kernel) rfl, List.forall_mem_cons.mpr ⟨zg_5 138 (by decide +kernel) rfl, List.forall_mem_cons.mpr ⟨zg_1 1 (by decide +kernel) rfl, List.forall_mem_cons.mpr ⟨zg_5 139 (by decide +kernel) rfl, fun _ h => nomatch h⟩⟩⟩⟩, ⟨by decide +kernel, by decide +kernel, by decide +kernel⟩, by decide⟩
theorem vX11_broken : zcV mX11_broken 2 := ⟨List.forall_mem_cons.mpr ⟨zg_5 144 (by decide +kernel) rfl, List.forall_mem_cons.mpr ⟨zg_5 145 (by decide +kernel) rfl, List.forall_mem_cons.mpr ⟨zg_1 1 (by decide +kernel) rfl, List.forall_mem_cons.mpr ⟨zg_5 146 (by decide +kernel) rfl, fun _ h => nomatch h⟩⟩⟩⟩, ⟨by decide +kernel, by decide +kernel, by decide +kernel⟩, by decide⟩
theorem vX11_days : zcV mX11_days 1 := ⟨List.forall_mem_cons.mpr ⟨zg_5 151 (by decide +kernel) rfl, List.forall_mem_cons.mpr ⟨zg_5 152 (by decide +kernel) rfl, List.forall_mem_cons.mpr ⟨zg_1 1 (by decide +kernel) rfl, List.forall_mem_cons.mpr ⟨zg_5 153 (by decide +kernel) rfl, fun _ h => nomatch h⟩⟩⟩⟩, ⟨by decide +kernel, by decide +kernel, by decide +kernel⟩, by decide⟩
theorem vX11_queue : zcV mX11_queue 1 := ⟨List.forall_mem_cons.mpr ⟨zg_6 44 (by decide +kernel) rfl, List.forall_mem_cons.mpr ⟨zg_6 45 (by decide +kernel) rfl, List.forall_mem_cons.mpr ⟨zg_1 1 (by decide +kernel) rfl, List.forall_mem_cons.mpr ⟨zg_6 46 (by decide +kernel) rfl, fun _ h => nomatch h⟩⟩⟩⟩, ⟨by decide +kernel, by decide +kernel, by decide +kernel⟩, by decide⟩
theorem vX11_ahead : zcV mX11_ahead 1 := ⟨List.forall_mem_cons.mpr ⟨zg_6 52 (by decide +kernel) rfl, List.forall_mem_cons.mpr ⟨zg_6 53 (by decide +kernel) rfl, List.forall_mem_cons.mpr ⟨zg_1 1 (by decide +kernel) rfl, List.forall_mem_cons.mpr ⟨zg_6 54 (by decide +kernel) rfl, fun _ h => nomatch h⟩⟩⟩⟩, ⟨by decide +kernel, by decide +kernel, by decide +kernel⟩, by decide⟩
theorem vX11_booklet : zcV mX11_booklet 2 := ⟨List.forall_mem_cons.mpr ⟨zg_6 66 (by decide +kernel) rfl, List.forall_mem_cons.mpr ⟨zg_6 67 (by decide +kernel) rfl, List.forall_mem_cons.mpr ⟨zg_1 1 (by decide +kernel) rfl, List.forall_mem_cons.mpr ⟨zg_6 68 (by decide +kernel) rfl, fun _ h => nomatch h⟩⟩⟩⟩, ⟨by decide +kernel, by decide +kernel, by decide +kernel⟩, by decide⟩
theorem vX11_valid : zcV mX11_valid 2 := ⟨List.forall_mem_cons.mpr ⟨zg_6 74 (by decide +kernel) rfl, List.forall_mem_cons.mpr ⟨zg_6 75 (by decide +kernel) rfl, List.forall_mem_cons.mpr ⟨zg_1 1 (by decide +kernel) rfl, List.forall_mem_cons.mpr ⟨zg_6 76 (by decide +kernel) rfl, fun _ h => nomatch h⟩⟩⟩⟩, ⟨by decide +kernel, by decide +kernel, by decide +kernel⟩, by decide⟩
theorem vX11_missed : zcV mX11_missed 2 := ⟨List.forall_mem_cons.mpr ⟨zg_6 81 (by decide +kernel) rfl, List.forall_mem_cons.mpr ⟨zg_6 82 (by decide +kernel) rfl, List.forall_mem_cons.mpr ⟨zg_1 1 (by decide +kernel) rfl, List.forall_mem_cons.mpr ⟨zg_6 83 (by decide +kernel) rfl, fun _ h => nomatch h⟩⟩⟩⟩, ⟨by decide +kernel, by decide +kernel, by decide +kernel⟩, by decide⟩
theorem vX11_waits : zcV mX11_waits 2 := ⟨List.forall_mem_cons.mpr ⟨zg_6 118 (by decide +kernel) rfl, List.forall_mem_cons.mpr ⟨zg_6 119 (by decide +kernel) rfl, List.forall_mem_cons.mpr ⟨zg_1 1 (by decide +kernel) rfl, List.forall_mem_cons.mpr ⟨zg_6 120 (by decide +kernel) rfl, fun _ h => nomatch h⟩⟩⟩⟩, ⟨by decide +kernel, by decide +kernel, by decide +kernel⟩, by decide⟩
theorem vX11_latestWaits : zcV mX11_latestWaits 1 := ⟨List.forall_mem_cons.mpr ⟨zg_6 123 (by decide +kernel) rfl, List.forall_mem_cons.mpr ⟨zgood_in 40 (by decide +kernel) rfl, List.forall_mem_cons.mpr ⟨zg_1 1 (by decide +kernel) rfl, List.forall_mem_cons.mpr ⟨zg_6 124 (by decide +kernel) rfl, fun _ h => nomatch h⟩⟩⟩⟩, ⟨by decide +kernel, by decide +kernel, by decide +kernel⟩, by decide⟩
theorem sX11_sort : zcS mX11_sort 2 := ⟨List.forall_mem_cons.mpr ⟨zg_6 130 (by decide +kernel) rfl, List.forall_mem_cons.mpr ⟨zg_1 1 (by decide +kernel) rfl, List.forall_mem_cons.mpr ⟨zg_6 131 (by decide +kernel) rfl, fun _ h => nomatch h⟩⟩⟩, ⟨by decide +kernel, by decide +kernel, by decide +kernel⟩, by decide⟩
theorem vX11_ends : zcV mX11_ends 2 := ⟨List.forall_mem_cons.mpr ⟨zg_2 85 (by decide +kernel) rfl, List.forall_mem_cons.mpr ⟨zg_2 86 (by decide +kernel) rfl, List.forall_mem_cons.mpr ⟨zg_1 1 (by decide +kernel) rfl, List.forall_mem_cons.mpr ⟨zg_2 87 (by decide +kernel) rfl, fun _ h => nomatch h⟩⟩⟩⟩, ⟨by decide +kernel, by decide +kernel, by decide +kernel⟩, by decide⟩
theorem vX11_count : zcV mX11_count 1 := ⟨List.forall_mem_cons.mpr ⟨zg_2 116 (by decide +kernel) rfl, List.forall_mem_cons.mpr ⟨zg_2 117 (by decide +kernel) rfl, List.forall_mem_cons.mpr ⟨zg_1 1 (by decide +kernel) rfl, List.forall_mem_cons.mpr ⟨zg_2 118 (by decide +kernel) rfl, fun _ h => nomatch h⟩⟩⟩⟩, ⟨by decide +kernel, by decide +kernel, by decide +kernel⟩, by decide⟩
theorem sX11_demand : zcS mX11_demand 1 := ⟨List.forall_mem_cons.mpr ⟨zg_2 168 (by decide +kernel) rfl, List.forall_mem_cons.mpr ⟨zg_1 1 (by decide +kernel) rfl, List.forall_mem_cons.mpr ⟨zg_2 169 (by decide +kernel) rfl, fun _ h => nomatch h⟩⟩⟩, ⟨by decide +kernel, by decide +kernel, by decide +kernel⟩, by decide⟩
theorem sX11_allow : zcS mX11_allow 1 := ⟨List.forall_mem_cons.mpr ⟨zg_5 32 (by decide +kernel) rfl, List.forall_mem_cons.mpr ⟨zg_1 1 (by decide +kernel) rfl, List.forall_mem_cons.mpr ⟨zg_5 33 (by decide +kernel) rfl, fun _ h => nomatch h⟩⟩⟩, ⟨by decide +kernel, by decide +kernel, by decide +kernel⟩, by decide⟩
theorem sX11_checkDesk : zcS mX11_checkDesk 1 := ⟨List.forall_mem_cons.mpr ⟨zg_5 61 (by decide +kernel) rfl, List.forall_mem_cons.mpr ⟨zg_1 1 (by decide +kernel) rfl, List.forall_mem_cons.mpr ⟨zg_5 62 (by decide +kernel) rfl, fun _ h => nomatch h⟩⟩⟩, ⟨by decide +kernel, by decide +kernel, by decide +kernel⟩, by decide⟩
theorem vX11_personAt : zcV mX11_personAt 1 := ⟨List.forall_mem_cons.mpr ⟨zg_4 0 (by decide +kernel) rfl, List.forall_mem_cons.mpr ⟨zgood_in 19 (by decide +kernel) rfl, List.forall_mem_cons.mpr ⟨zg_1 1 (by decide +kernel) rfl, List.forall_mem_cons.mpr ⟨zg_4 1 (by decide +kernel) rfl, fun _ h => nomatch h⟩⟩⟩⟩, ⟨by decide +kernel, by decide +kernel, by decide +kernel⟩, by decide⟩
theorem vX11_askingAt : zcV mX11_askingAt 1 := ⟨List.forall_mem_cons.mpr ⟨zg_5 29 (by decide +kernel) rfl, List.forall_mem_cons.mpr ⟨zgood_in 25 (by decide +kernel) rfl, List.forall_mem_cons.mpr ⟨zg_1 1 (by decide +kernel) rfl, List.forall_mem_cons.mpr ⟨zg_5 30 (by decide +kernel) rfl, fun _ h => nomatch h⟩⟩⟩⟩, ⟨by decide +kernel, by decide +kernel, by decide +kernel⟩, by decide⟩
theorem iX12_init : zcI mX12_init 0 := ⟨List.forall_mem_cons.mpr ⟨zg_7 112 (by decide +kernel) rfl, List.forall_mem_cons.mpr ⟨zg_1 11 (by decide +kernel) rfl, List.forall_mem_cons.mpr ⟨zg_7 113 (by decide +kernel) rfl, fun _ h => nomatch h⟩⟩⟩, ⟨by decide +kernel, by decide +kernel, by decide +kernel⟩, by decide, rfl, rfl⟩
theorem vX12_thrown : zcV mX12_thrown 0 := ⟨List.forall_mem_cons.mpr ⟨zg_8 127 (by decide +kernel) rfl, List.forall_mem_cons.mpr ⟨zg_8 128 (by decide +kernel) rfl, List.forall_mem_cons.mpr ⟨zg_1 11 (by decide +kernel) rfl, List.forall_mem_cons.mpr ⟨zg_8 129 (by decide +kernel) rfl, fun _ h => nomatch h⟩⟩⟩⟩, ⟨by decide +kernel, by decide +kernel, by decide +kernel⟩, by decide⟩
theorem vX12_throwsIf : zcV mX12_throwsIf 2 := ⟨List.forall_mem_cons.mpr ⟨zg_8 155 (by decide +kernel) rfl, List.forall_mem_cons.mpr ⟨zgood_in 42 (by decide +kernel) rfl, List.forall_mem_cons.mpr ⟨zg_1 11 (by decide +kernel) rfl, List.forall_mem_cons.mpr ⟨zg_8 156 (by decide +kernel) rfl, fun _ h => nomatch h⟩⟩⟩⟩, ⟨by decide +kernel, by decide +kernel, by decide +kernel⟩, by decide⟩
theorem sX12_in : zcS mX12_in 3 := ⟨List.forall_mem_cons.mpr ⟨zg_8 151 (by decide +kernel) rfl, List.forall_mem_cons.mpr ⟨zg_1 11 (by decide +kernel) rfl, List.forall_mem_cons.mpr ⟨zg_8 152 (by decide +kernel) rfl, fun _ h => nomatch h⟩⟩⟩, ⟨by decide +kernel, by decide +kernel, by decide +kernel⟩, by decide⟩
theorem vX12_feed : zcV mX12_feed 5 := ⟨List.forall_mem_cons.mpr ⟨zg_8 131 (by decide +kernel) rfl, List.forall_mem_cons.mpr ⟨zg_8 132 (by decide +kernel) rfl, List.forall_mem_cons.mpr ⟨zg_1 11 (by decide +kernel) rfl, List.forall_mem_cons.mpr ⟨zg_8 133 (by decide +kernel) rfl, fun _ h => nomatch h⟩⟩⟩⟩, ⟨by decide +kernel, by decide +kernel, by decide +kernel⟩, by decide⟩
theorem vX12_end : zcV mX12_end 1 := ⟨List.forall_mem_cons.mpr ⟨zg_8 135 (by decide +kernel) rfl, List.forall_mem_cons.mpr ⟨zg_8 136 (by decide +kernel) rfl, List.forall_mem_cons.mpr ⟨zg_1 11 (by decide +kernel) rfl, List.forall_mem_cons.mpr ⟨zg_8 137 (by decide +kernel) rfl, fun _ h => nomatch h⟩⟩⟩⟩, ⟨by decide +kernel, by decide +kernel, by decide +kernel⟩, by decide⟩
theorem vX12_uses : zcV mX12_uses 0 := ⟨List.forall_mem_cons.mpr ⟨zg_8 148 (by decide +kernel) rfl, List.forall_mem_cons.mpr ⟨zgood_in 41 (by decide +kernel) rfl, List.forall_mem_cons.mpr ⟨zg_1 11 (by decide +kernel) rfl, List.forall_mem_cons.mpr ⟨zg_8 149 (by decide +kernel) rfl, fun _ h => nomatch h⟩⟩⟩⟩, ⟨by decide +kernel, by decide +kernel, by decide +kernel⟩, by decide⟩
theorem vX12_isAt : zcV mX12_isAt 2 := ⟨List.forall_mem_cons.mpr ⟨zg_8 167 (by decide +kernel) rfl, List.forall_mem_cons.mpr ⟨zgood_in 45 (by decide +kernel) rfl, List.forall_mem_cons.mpr ⟨zg_1 11 (by decide +kernel) rfl, List.forall_mem_cons.mpr ⟨zg_8 168 (by decide +kernel) rfl, fun _ h => nomatch h⟩⟩⟩⟩, ⟨by decide +kernel, by decide +kernel, by decide +kernel⟩, by decide⟩
theorem vX12_blanksBetween : zcV mX12_blanksBetween 0 := ⟨List.forall_mem_cons.mpr ⟨zg_8 163 (by decide +kernel) rfl, List.forall_mem_cons.mpr ⟨zgood_in 44 (by decide +kernel) rfl, List.forall_mem_cons.mpr ⟨zg_1 11 (by decide +kernel) rfl, List.forall_mem_cons.mpr ⟨zg_8 164 (by decide +kernel) rfl, fun _ h => nomatch h⟩⟩⟩⟩, ⟨by decide +kernel, by decide +kernel, by decide +kernel⟩, by decide⟩
theorem vX12_word : zcV mX12_word 0 := ⟨List.forall_mem_cons.mpr ⟨zg_8 175 (by decide +kernel) rfl, List.forall_mem_cons.mpr ⟨zgood_in 47 (by decide +kernel) rfl, List.forall_mem_cons.mpr ⟨zg_1 11 (by decide +kernel) rfl, List.forall_mem_cons.mpr ⟨zg_8 176 (by decide +kernel) rfl, fun _ h => nomatch h⟩⟩⟩⟩, ⟨by decide +kernel, by decide +kernel, by decide +kernel⟩, by decide⟩
theorem vX12_isWord : zcV mX12_isWord 1 := ⟨List.forall_mem_cons.mpr ⟨zg_8 180 (by decide +kernel) rfl, List.forall_mem_cons.mpr ⟨zgood_in 48 (by decide +kernel) rfl, List.forall_mem_cons.mpr ⟨zg_1 11 (by decide +kernel) rfl, List.forall_mem_cons.mpr ⟨zg_8 181 (by decide +kernel) rfl, fun _ h => nomatch h⟩⟩⟩⟩, ⟨by decide +kernel, by decide +kernel, by decide +kernel⟩, by decide⟩
theorem vX12_passes : zcV mX12_passes 1 := ⟨List.forall_mem_cons.mpr ⟨zg_8 207 (by decide +kernel) rfl, List.forall_mem_cons.mpr ⟨zgood_in 50 (by decide +kernel) rfl, List.forall_mem_cons.mpr ⟨zg_1 11 (by decide +kernel) rfl, List.forall_mem_cons.mpr ⟨zg_8 208 (by decide +kernel) rfl, fun _ h => nomatch h⟩⟩⟩⟩, ⟨by decide +kernel, by decide +kernel, by decide +kernel⟩, by decide⟩
theorem vX12_passesSign : zcV mX12_passesSign 1 := ⟨List.forall_mem_cons.mpr ⟨zg_8 223 (by decide +kernel) rfl, List.forall_mem_cons.mpr ⟨zgood_in 54 (by decide +kernel) rfl, List.forall_mem_cons.mpr ⟨zg_1 11 (by decide +kernel) rfl, List.forall_mem_cons.mpr ⟨zg_8 224 (by decide +kernel) rfl, fun _ h => nomatch h⟩⟩⟩⟩, ⟨by decide +kernel, by decide +kernel, by decide +kernel⟩, by decide⟩
theorem vX12_number : zcV mX12_number 0 := ⟨List.forall_mem_cons.mpr ⟨zg_8 202 (by decide +kernel) rfl, List.forall_mem_cons.mpr ⟨zgood_in 49 (by decide +kernel) rfl, List.forall_mem_cons.mpr ⟨zg_1 11 (by decide +kernel) rfl, List.forall_mem_cons.mpr ⟨zg_8 203 (by decide +kernel) rfl, fun _ h => nomatch h⟩⟩⟩⟩, ⟨by decide +kernel, by decide +kernel, by decide +kernel⟩, by decide⟩
theorem vX12_fault : zcV mX12_fault 0 := ⟨List.forall_mem_cons.mpr ⟨zg_8 139 (by decide +kernel) rfl, List.forall_mem_cons.mpr ⟨zg_8 140 (by decide +kernel) rfl, List.forall_mem_cons.mpr ⟨zg_1 11 (by decide +kernel) rfl, List.forall_mem_cons.mpr ⟨zg_8 141 (by decide +kernel) rfl, fun _ h => nomatch h⟩⟩⟩⟩, ⟨by decide +kernel, by decide +kernel, by decide +kernel⟩, by decide⟩
theorem vX12_adds : zcV mX12_adds 3 := ⟨List.forall_mem_cons.mpr ⟨zg_8 228 (by decide +kernel) rfl, List.forall_mem_cons.mpr ⟨zgood_in 55 (by decide +kernel) rfl, List.forall_mem_cons.mpr ⟨zg_1 11 (by decide +kernel) rfl, List.forall_mem_cons.mpr ⟨zg_8 229 (by decide +kernel) rfl, fun _ h => nomatch h⟩⟩⟩⟩, ⟨by decide +kernel, by decide +kernel, by decide +kernel⟩, by decide⟩
theorem sX12_fact : zcS mX12_fact 1 := ⟨List.forall_mem_cons.mpr ⟨zg_8 231 (by decide +kernel) rfl, List.forall_mem_cons.mpr ⟨zg_1 11 (by decide +kernel) rfl, List.forall_mem_cons.mpr ⟨zg_8 232 (by decide +kernel) rfl, fun _ h => nomatch h⟩⟩⟩, ⟨by decide +kernel, by decide +kernel, by decide +kernel⟩, by decide⟩
theorem sX12_item : zcS mX12_item 1 := ⟨List.forall_mem_cons.mpr ⟨zg_8 190 (by decide +kernel) rfl, List.forall_mem_cons.mpr ⟨zg_1 11 (by decide +kernel) rfl, List.forall_mem_cons.mpr ⟨zg_8 191 (by decide +kernel) rfl, fun _ h => nomatch h⟩⟩⟩, ⟨by decide +kernel, by decide +kernel, by decide +kernel⟩, by decide⟩
theorem vX12_readAtom : zcV mX12_readAtom 0 := ⟨List.forall_mem_cons.mpr ⟨zg_8 219 (by decide +kernel) rfl, List.forall_mem_cons.mpr ⟨zgood_in 53 (by decide +kernel) rfl, List.forall_mem_cons.mpr ⟨zg_1 11 (by decide +kernel) rfl, List.forall_mem_cons.mpr ⟨zg_8 220 (by decide +kernel) rfl, fun _ h => nomatch h⟩⟩⟩⟩, ⟨by decide +kernel, by decide +kernel, by decide +kernel⟩, by decide⟩
theorem vX12_readAllOf : zcV mX12_readAllOf 0 := ⟨List.forall_mem_cons.mpr ⟨zg_8 215 (by decide +kernel) rfl, List.forall_mem_cons.mpr ⟨zgood_in 52 (by decide +kernel) rfl, List.forall_mem_cons.mpr ⟨zg_1 11 (by decide +kernel) rfl, List.forall_mem_cons.mpr ⟨zg_8 216 (by decide +kernel) rfl, fun _ h => nomatch h⟩⟩⟩⟩, ⟨by decide +kernel, by decide +kernel, by decide +kernel⟩, by decide⟩
theorem vX12_readCond : zcV mX12_readCond 0 := ⟨List.forall_mem_cons.mpr ⟨zg_8 211 (by decide +kernel) rfl, List.forall_mem_cons.mpr ⟨zgood_in 51 (by decide +kernel) rfl, List.forall_mem_cons.mpr ⟨zg_1 11 (by decide +kernel) rfl, List.forall_mem_cons.mpr ⟨zg_8 212 (by decide +kernel) rfl, fun _ h => nomatch h⟩⟩⟩⟩, ⟨by decide +kernel, by decide +kernel, by decide +kernel⟩, by decide⟩
theorem vX12_readClause : zcV mX12_readClause 1 := ⟨List.forall_mem_cons.mpr ⟨zg_8 171 (by decide +kernel) rfl, List.forall_mem_cons.mpr ⟨zgood_in 46 (by decide +kernel) rfl, List.forall_mem_cons.mpr ⟨zg_1 11 (by decide +kernel) rfl, List.forall_mem_cons.mpr ⟨zg_8 172 (by decide +kernel) rfl, fun _ h => nomatch h⟩⟩⟩⟩, ⟨by decide +kernel, by decide +kernel, by decide +kernel⟩, by decide⟩
theorem vX12_readLaw : zcV mX12_readLaw 0 := ⟨List.forall_mem_cons.mpr ⟨zg_8 159 (by decide +kernel) rfl, List.forall_mem_cons.mpr ⟨zgood_in 43 (by decide +kernel) rfl, List.forall_mem_cons.mpr ⟨zg_1 11 (by decide +kernel) rfl, List.forall_mem_cons.mpr ⟨zg_8 160 (by decide +kernel) rfl, fun _ h => nomatch h⟩⟩⟩⟩, ⟨by decide +kernel, by decide +kernel, by decide +kernel⟩, by decide⟩
theorem vX12_law : zcV mX12_law 1 := ⟨List.forall_mem_cons.mpr ⟨zg_8 143 (by decide +kernel) rfl, List.forall_mem_cons.mpr ⟨zg_8 144 (by decide +kernel) rfl, List.forall_mem_cons.mpr ⟨zg_1 11 (by decide +kernel) rfl, List.forall_mem_cons.mpr ⟨zg_8 145 (by decide +kernel) rfl, fun _ h => nomatch h⟩⟩⟩⟩, ⟨by decide +kernel, by decide +kernel, by decide +kernel⟩, by decide⟩
theorem vX12_lawOf : zcV mX12_lawOf 1 := ⟨List.forall_mem_cons.mpr ⟨zg_9 103 (by decide +kernel) rfl, List.forall_mem_cons.mpr ⟨zgood_in 63 (by decide +kernel) rfl, List.forall_mem_cons.mpr ⟨zg_1 11 (by decide +kernel) rfl, List.forall_mem_cons.mpr ⟨zg_9 104 (by decide +kernel) rfl, fun _ h => nomatch h⟩⟩⟩⟩, ⟨by decide +kernel, by decide +kernel, by decide +kernel⟩, by decide⟩
theorem vX12_holds : zcV mX12_holds 3 := ⟨List.forall_mem_cons.mpr ⟨zg_9 107 (by decide +kernel) rfl, List.forall_mem_cons.mpr ⟨zgood_in 64 (by decide +kernel) rfl, List.forall_mem_cons.mpr ⟨zg_1 11 (by decide +kernel) rfl, List.forall_mem_cons.mpr ⟨zg_9 108 (by decide +kernel) rfl, fun _ h => nomatch h⟩⟩⟩⟩, ⟨by decide +kernel, by decide +kernel, by decide +kernel⟩, by decide⟩
theorem vX12_judges : zcV mX12_judges 4 := ⟨List.forall_mem_cons.mpr ⟨zg_9 92 (by decide +kernel) rfl, List.forall_mem_cons.mpr ⟨zgood_in 61 (by decide +kernel) rfl, List.forall_mem_cons.mpr ⟨zg_1 11 (by decide +kernel) rfl, List.forall_mem_cons.mpr ⟨zg_9 93 (by decide +kernel) rfl, fun _ h => nomatch h⟩⟩⟩⟩, ⟨by decide +kernel, by decide +kernel, by decide +kernel⟩, by decide⟩
theorem vX12_nobody : zcV mX12_nobody 1 := ⟨List.forall_mem_cons.mpr ⟨zg_9 18 (by decide +kernel) rfl, List.forall_mem_cons.mpr ⟨zgood_in 56 (by decide +kernel) rfl, List.forall_mem_cons.mpr ⟨zg_1 11 (by decide +kernel) rfl, List.forall_mem_cons.mpr ⟨zg_9 19 (by decide +kernel) rfl, fun _ h => nomatch h⟩⟩⟩⟩, ⟨by decide +kernel, by decide +kernel, by decide +kernel⟩, by decide⟩
theorem sX12_noFace : zcS mX12_noFace 1 := ⟨List.forall_mem_cons.mpr ⟨zg_9 10 (by decide +kernel) rfl, List.forall_mem_cons.mpr ⟨zg_1 11 (by decide +kernel) rfl, List.forall_mem_cons.mpr ⟨zg_9 11 (by decide +kernel) rfl, fun _ h => nomatch h⟩⟩⟩, ⟨by decide +kernel, by decide +kernel, by decide +kernel⟩, by decide⟩
theorem vX12_person : zcV mX12_person 7 := ⟨List.forall_mem_cons.mpr ⟨zg_9 5 (by decide +kernel) rfl, List.forall_mem_cons.mpr ⟨zg_9 6 (by decide +kernel) rfl, List.forall_mem_cons.mpr ⟨zg_1 11 (by decide +kernel) rfl, List.forall_mem_cons.mpr ⟨zg_9 7 (by decide +kernel) rfl, fun _ h => nomatch h⟩⟩⟩⟩, ⟨by decide +kernel, by decide +kernel, by decide +kernel⟩, by decide⟩
theorem sX12_isGap : zcS mX12_isGap 1 := ⟨List.forall_mem_cons.mpr ⟨zg_9 28 (by decide +kernel) rfl, List.forall_mem_cons.mpr ⟨zg_1 11 (by decide +kernel) rfl, List.forall_mem_cons.mpr ⟨zg_9 29 (by decide +kernel) rfl, fun _ h => nomatch h⟩⟩⟩, ⟨by decide +kernel, by decide +kernel, by decide +kernel⟩, by decide⟩
theorem sX12_turnOf : zcS mX12_turnOf 1 := ⟨List.forall_mem_cons.mpr ⟨zg_9 25 (by decide +kernel) rfl, List.forall_mem_cons.mpr ⟨zg_1 11 (by decide +kernel) rfl, List.forall_mem_cons.mpr ⟨zg_9 26 (by decide +kernel) rfl, fun _ h => nomatch h⟩⟩⟩, ⟨by decide +kernel, by decide +kernel, by decide +kernel⟩, by decide⟩
theorem vX12_readName : zcV mX12_readName 0 := ⟨List.forall_mem_cons.mpr ⟨zg_9 22 (by decide +kernel) rfl, List.forall_mem_cons.mpr ⟨zgood_in 57 (by decide +kernel) rfl, List.forall_mem_cons.mpr ⟨zg_1 11 (by decide +kernel) rfl, List.forall_mem_cons.mpr ⟨zg_9 23 (by decide +kernel) rfl, fun _ h => nomatch h⟩⟩⟩⟩, ⟨by decide +kernel, by decide +kernel, by decide +kernel⟩, by decide⟩
theorem vX12_name : zcV mX12_name 1 := ⟨List.forall_mem_cons.mpr ⟨zg_9 13 (by decide +kernel) rfl, List.forall_mem_cons.mpr ⟨zg_9 14 (by decide +kernel) rfl, List.forall_mem_cons.mpr ⟨zg_1 11 (by decide +kernel) rfl, List.forall_mem_cons.mpr ⟨zg_9 15 (by decide +kernel) rfl, fun _ h => nomatch h⟩⟩⟩⟩, ⟨by decide +kernel, by decide +kernel, by decide +kernel⟩, by decide⟩
theorem vX12_sign : zcV mX12_sign 2 := ⟨List.forall_mem_cons.mpr ⟨zg_9 31 (by decide +kernel) rfl, List.forall_mem_cons.mpr ⟨zg_9 32 (by decide +kernel) rfl, List.forall_mem_cons.mpr ⟨zg_1 11 (by decide +kernel) rfl, List.forall_mem_cons.mpr ⟨zg_9 33 (by decide +kernel) rfl, fun _ h => nomatch h⟩⟩⟩⟩, ⟨by decide +kernel, by decide +kernel, by decide +kernel⟩, by decide⟩
theorem vX12_figure : zcV mX12_figure 1 := ⟨List.forall_mem_cons.mpr ⟨zg_9 35 (by decide +kernel) rfl, List.forall_mem_cons.mpr ⟨zg_9 36 (by decide +kernel) rfl, List.forall_mem_cons.mpr ⟨zg_1 11 (by decide +kernel) rfl, List.forall_mem_cons.mpr ⟨zg_9 37 (by decide +kernel) rfl, fun _ h => nomatch h⟩⟩⟩⟩, ⟨by decide +kernel, by decide +kernel, by decide +kernel⟩, by decide⟩
theorem vX12_farOf : zcV mX12_farOf 2 := ⟨List.forall_mem_cons.mpr ⟨zg_9 44 (by decide +kernel) rfl, List.forall_mem_cons.mpr ⟨zgood_in 58 (by decide +kernel) rfl, List.forall_mem_cons.mpr ⟨zg_1 11 (by decide +kernel) rfl, List.forall_mem_cons.mpr ⟨zg_9 45 (by decide +kernel) rfl, fun _ h => nomatch h⟩⟩⟩⟩, ⟨by decide +kernel, by decide +kernel, by decide +kernel⟩, by decide⟩
theorem vX12_far : zcV mX12_far 2 := ⟨List.forall_mem_cons.mpr ⟨zg_9 39 (by decide +kernel) rfl, List.forall_mem_cons.mpr ⟨zg_9 40 (by decide +kernel) rfl, List.forall_mem_cons.mpr ⟨zg_1 11 (by decide +kernel) rfl, List.forall_mem_cons.mpr ⟨zg_9 41 (by decide +kernel) rfl, fun _ h => nomatch h⟩⟩⟩⟩, ⟨by decide +kernel, by decide +kernel, by decide +kernel⟩, by decide⟩
theorem sX12_noDesk : zcS mX12_noDesk 1 := ⟨List.forall_mem_cons.mpr ⟨zg_9 51 (by decide +kernel) rfl, List.forall_mem_cons.mpr ⟨zg_1 11 (by decide +kernel) rfl, List.forall_mem_cons.mpr ⟨zg_9 52 (by decide +kernel) rfl, fun _ h => nomatch h⟩⟩⟩, ⟨by decide +kernel, by decide +kernel, by decide +kernel⟩, by decide⟩
theorem vX12_hands : zcV mX12_hands 2 := ⟨List.forall_mem_cons.mpr ⟨zg_9 47 (by decide +kernel) rfl, List.forall_mem_cons.mpr ⟨zg_9 48 (by decide +kernel) rfl, List.forall_mem_cons.mpr ⟨zg_1 11 (by decide +kernel) rfl, List.forall_mem_cons.mpr ⟨zg_9 49 (by decide +kernel) rfl, fun _ h => nomatch h⟩⟩⟩⟩, ⟨by decide +kernel, by decide +kernel, by decide +kernel⟩, by decide⟩
theorem vX12_lend : zcV mX12_lend 5 := ⟨List.forall_mem_cons.mpr ⟨zg_9 54 (by decide +kernel) rfl, List.forall_mem_cons.mpr ⟨zg_9 55 (by decide +kernel) rfl, List.forall_mem_cons.mpr ⟨zg_1 11 (by decide +kernel) rfl, List.forall_mem_cons.mpr ⟨zg_9 56 (by decide +kernel) rfl, fun _ h => nomatch h⟩⟩⟩⟩, ⟨by decide +kernel, by decide +kernel, by decide +kernel⟩, by decide⟩
theorem vX12_unitsOf : zcV mX12_unitsOf 2 := ⟨List.forall_mem_cons.mpr ⟨zg_9 63 (by decide +kernel) rfl, List.forall_mem_cons.mpr ⟨zgood_in 59 (by decide +kernel) rfl, List.forall_mem_cons.mpr ⟨zg_1 11 (by decide +kernel) rfl, List.forall_mem_cons.mpr ⟨zg_9 64 (by decide +kernel) rfl, fun _ h => nomatch h⟩⟩⟩⟩, ⟨by decide +kernel, by decide +kernel, by decide +kernel⟩, by decide⟩
theorem vX12_units : zcV mX12_units 2 := ⟨List.forall_mem_cons.mpr ⟨zg_9 58 (by decide +kernel) rfl, List.forall_mem_cons.mpr ⟨zg_9 59 (by decide +kernel) rfl, List.forall_mem_cons.mpr ⟨zg_1 11 (by decide +kernel) rfl, List.forall_mem_cons.mpr ⟨zg_9 60 (by decide +kernel) rfl, fun _ h => nomatch h⟩⟩⟩⟩, ⟨by decide +kernel, by decide +kernel, by decide +kernel⟩, by decide⟩
theorem vX12_rules : zcV mX12_rules 5 := ⟨List.forall_mem_cons.mpr ⟨zg_9 67 (by decide +kernel) rfl, List.forall_mem_cons.mpr ⟨zg_9 68 (by decide +kernel) rfl, List.forall_mem_cons.mpr ⟨zg_1 11 (by decide +kernel) rfl, List.forall_mem_cons.mpr ⟨zg_9 69 (by decide +kernel) rfl, fun _ h => nomatch h⟩⟩⟩⟩, ⟨by decide +kernel, by decide +kernel, by decide +kernel⟩, by decide⟩
theorem vX12_order : zcV mX12_order 1 := ⟨List.forall_mem_cons.mpr ⟨zg_9 71 (by decide +kernel) rfl, List.forall_mem_cons.mpr ⟨zg_9 72 (by decide +kernel) rfl, List.forall_mem_cons.mpr ⟨zg_1 11 (by decide +kernel) rfl, List.forall_mem_cons.mpr ⟨zg_9 73 (by decide +kernel) rfl, fun _ h => nomatch h⟩⟩⟩⟩, ⟨by decide +kernel, by decide +kernel, by decide +kernel⟩, by decide⟩
theorem vX12_blanks : zcV mX12_blanks 1 := ⟨List.forall_mem_cons.mpr ⟨zg_9 75 (by decide +kernel) rfl, List.forall_mem_cons.mpr ⟨zg_9 76 (by decide +kernel) rfl, List.forall_mem_cons.mpr ⟨zg_1 11 (by decide +kernel) rfl, List.forall_mem_cons.mpr ⟨zg_9 77 (by decide +kernel) rfl, fun _ h => nomatch h⟩⟩⟩⟩, ⟨by decide +kernel, by decide +kernel, by decide +kernel⟩, by decide⟩
theorem vX12_broken : zcV mX12_broken 2 := ⟨List.forall_mem_cons.mpr ⟨zg_9 79 (by decide +kernel) rfl, List.forall_mem_cons.mpr ⟨zg_9 80 (by decide +kernel) rfl, List.forall_mem_cons.mpr ⟨zg_1 11 (by decide +kernel) rfl, List.forall_mem_cons.mpr ⟨zg_9 81 (by decide +kernel) rfl, fun _ h => nomatch h⟩⟩⟩⟩, ⟨by decide +kernel, by decide +kernel, by decide +kernel⟩, by decide⟩
theorem vX12_noAsking : zcV mX12_noAsking 1 := ⟨List.forall_mem_cons.mpr ⟨zg_9 124 (by decide +kernel) rfl, List.forall_mem_cons.mpr ⟨zgood_in 66 (by decide +kernel) rfl, List.forall_mem_cons.mpr ⟨zg_1 11 (by decide +kernel) rfl, List.forall_mem_cons.mpr ⟨zg_9 125 (by decide +kernel) rfl, fun _ h => nomatch h⟩⟩⟩⟩, ⟨by decide +kernel, by decide +kernel, by decide +kernel⟩, by decide⟩
theorem vX12_now : zcV mX12_now 2 := ⟨List.forall_mem_cons.mpr ⟨zg_9 128 (by decide +kernel) rfl, List.forall_mem_cons.mpr ⟨zgood_in 67 (by decide +kernel) rfl, List.forall_mem_cons.mpr ⟨zg_1 11 (by decide +kernel) rfl, List.forall_mem_cons.mpr ⟨zg_9 129 (by decide +kernel) rfl, fun _ h => nomatch h⟩⟩⟩⟩, ⟨by decide +kernel, by decide +kernel, by decide +kernel⟩, by decide⟩
theorem vX12_sets : zcV mX12_sets 3 := ⟨List.forall_mem_cons.mpr ⟨zg_9 116 (by decide +kernel) rfl, List.forall_mem_cons.mpr ⟨zgood_in 65 (by decide +kernel) rfl, List.forall_mem_cons.mpr ⟨zg_1 11 (by decide +kernel) rfl, List.forall_mem_cons.mpr ⟨zg_9 117 (by decide +kernel) rfl, fun _ h => nomatch h⟩⟩⟩⟩, ⟨by decide +kernel, by decide +kernel, by decide +kernel⟩, by decide⟩
theorem vX12_lacksOf : zcV mX12_lacksOf 1 := ⟨List.forall_mem_cons.mpr ⟨zg_9 132 (by decide +kernel) rfl, List.forall_mem_cons.mpr ⟨zgood_in 68 (by decide +kernel) rfl, List.forall_mem_cons.mpr ⟨zg_1 11 (by decide +kernel) rfl, List.forall_mem_cons.mpr ⟨zg_9 133 (by decide +kernel) rfl, fun _ h => nomatch h⟩⟩⟩⟩, ⟨by decide +kernel, by decide +kernel, by decide +kernel⟩, by decide⟩
theorem vX12_validOf : zcV mX12_validOf 2 := ⟨List.forall_mem_cons.mpr ⟨zg_9 99 (by decide +kernel) rfl, List.forall_mem_cons.mpr ⟨zgood_in 62 (by decide +kernel) rfl, List.forall_mem_cons.mpr ⟨zg_1 11 (by decide +kernel) rfl, List.forall_mem_cons.mpr ⟨zg_9 100 (by decide +kernel) rfl, fun _ h => nomatch h⟩⟩⟩⟩, ⟨by decide +kernel, by decide +kernel, by decide +kernel⟩, by decide⟩
theorem vX12_noAsk : zcV mX12_noAsk 2 := ⟨List.forall_mem_cons.mpr ⟨zg_9 88 (by decide +kernel) rfl, List.forall_mem_cons.mpr ⟨zgood_in 60 (by decide +kernel) rfl, List.forall_mem_cons.mpr ⟨zg_1 11 (by decide +kernel) rfl, List.forall_mem_cons.mpr ⟨zg_9 89 (by decide +kernel) rfl, fun _ h => nomatch h⟩⟩⟩⟩, ⟨by decide +kernel, by decide +kernel, by decide +kernel⟩, by decide⟩
theorem vX12_judge : zcV mX12_judge 5 := ⟨List.forall_mem_cons.mpr ⟨zg_9 83 (by decide +kernel) rfl, List.forall_mem_cons.mpr ⟨zg_9 84 (by decide +kernel) rfl, List.forall_mem_cons.mpr ⟨zg_1 11 (by decide +kernel) rfl, List.forall_mem_cons.mpr ⟨zg_9 85 (by decide +kernel) rfl, fun _ h => nomatch h⟩⟩⟩⟩, ⟨by decide +kernel, by decide +kernel, by decide +kernel⟩, by decide⟩
theorem vX12_ask : zcV mX12_ask 5 := ⟨List.forall_mem_cons.mpr ⟨zg_9 111 (by decide +kernel) rfl, List.forall_mem_cons.mpr ⟨zg_9 112 (by decide +kernel) rfl, List.forall_mem_cons.mpr ⟨zg_1 11 (by decide +kernel) rfl, List.forall_mem_cons.mpr ⟨zg_9 113 (by decide +kernel) rfl, fun _ h => nomatch h⟩⟩⟩⟩, ⟨by decide +kernel, by decide +kernel, by decide +kernel⟩, by decide⟩
theorem vX12_give : zcV mX12_give 2 := ⟨List.forall_mem_cons.mpr ⟨zg_9 119 (by decide +kernel) rfl, List.forall_mem_cons.mpr ⟨zg_9 120 (by decide +kernel) rfl, List.forall_mem_cons.mpr ⟨zg_1 11 (by decide +kernel) rfl, List.forall_mem_cons.mpr ⟨zg_9 121 (by decide +kernel) rfl, fun _ h => nomatch h⟩⟩⟩⟩, ⟨by decide +kernel, by decide +kernel, by decide +kernel⟩, by decide⟩
theorem vX12_checks : zcV mX12_checks 1 := ⟨List.forall_mem_cons.mpr ⟨zg_9 140 (by decide +kernel) rfl, List.forall_mem_cons.mpr ⟨zgood_in 69 (by decide +kernel) rfl, List.forall_mem_cons.mpr ⟨zg_1 11 (by decide +kernel) rfl, List.forall_mem_cons.mpr ⟨zg_9 141 (by decide +kernel) rfl, fun _ h => nomatch h⟩⟩⟩⟩, ⟨by decide +kernel, by decide +kernel, by decide +kernel⟩, by decide⟩
theorem vX12_tell : zcV mX12_tell 3 := ⟨List.forall_mem_cons.mpr ⟨zg_9 135 (by decide +kernel) rfl, List.forall_mem_cons.mpr ⟨zg_9 136 (by decide +kernel) rfl, List.forall_mem_cons.mpr ⟨zg_1 11 (by decide +kernel) rfl, List.forall_mem_cons.mpr ⟨zg_9 137 (by decide +kernel) rfl, fun _ h => nomatch h⟩⟩⟩⟩, ⟨by decide +kernel, by decide +kernel, by decide +kernel⟩, by decide⟩
theorem sX12_stateAt : zcS mX12_stateAt 1 := ⟨List.forall_mem_cons.mpr ⟨zg_9 163 (by decide +kernel) rfl, List.forall_mem_cons.mpr ⟨zg_1 11 (by decide +kernel) rfl, List.forall_mem_cons.mpr ⟨zg_9 164 (by decide +kernel) rfl, fun _ h => nomatch h⟩⟩⟩, ⟨by decide +kernel, by decide +kernel, by decide +kernel⟩, by decide⟩
theorem vX12_hasTicket : zcV mX12_hasTicket 1 := ⟨List.forall_mem_cons.mpr ⟨zg_9 171 (by decide +kernel) rfl, List.forall_mem_cons.mpr ⟨zgood_in 75 (by decide +kernel) rfl, List.forall_mem_cons.mpr ⟨zg_1 11 (by decide +kernel) rfl, List.forall_mem_cons.mpr ⟨zg_9 172 (by decide +kernel) rfl, fun _ h => nomatch h⟩⟩⟩⟩, ⟨by decide +kernel, by decide +kernel, by decide +kernel⟩, by decide⟩
theorem vX12_isAhead : zcV mX12_isAhead 3 := ⟨List.forall_mem_cons.mpr ⟨zg_9 167 (by decide +kernel) rfl, List.forall_mem_cons.mpr ⟨zgood_in 74 (by decide +kernel) rfl, List.forall_mem_cons.mpr ⟨zg_1 11 (by decide +kernel) rfl, List.forall_mem_cons.mpr ⟨zg_9 168 (by decide +kernel) rfl, fun _ h => nomatch h⟩⟩⟩⟩, ⟨by decide +kernel, by decide +kernel, by decide +kernel⟩, by decide⟩
theorem vX12_lines : zcV mX12_lines 2 := ⟨List.forall_mem_cons.mpr ⟨zg_9 160 (by decide +kernel) rfl, List.forall_mem_cons.mpr ⟨zgood_in 73 (by decide +kernel) rfl, List.forall_mem_cons.mpr ⟨zg_1 11 (by decide +kernel) rfl, List.forall_mem_cons.mpr ⟨zg_9 161 (by decide +kernel) rfl, fun _ h => nomatch h⟩⟩⟩⟩, ⟨by decide +kernel, by decide +kernel, by decide +kernel⟩, by decide⟩
theorem vX12_takes : zcV mX12_takes 2 := ⟨List.forall_mem_cons.mpr ⟨zg_9 175 (by decide +kernel) rfl, List.forall_mem_cons.mpr ⟨zgood_in 76 (by decide +kernel) rfl, List.forall_mem_cons.mpr ⟨zg_1 11 (by decide +kernel) rfl, List.forall_mem_cons.mpr ⟨zg_9 176 (by decide +kernel) rfl, fun _ h => nomatch h⟩⟩⟩⟩, ⟨by decide +kernel, by decide +kernel, by decide +kernel⟩, by decide⟩
theorem vX12_gets : zcV mX12_gets 1 := ⟨List.forall_mem_cons.mpr ⟨zg_9 152 (by decide +kernel) rfl, List.forall_mem_cons.mpr ⟨zgood_in 71 (by decide +kernel) rfl, List.forall_mem_cons.mpr ⟨zg_1 11 (by decide +kernel) rfl, List.forall_mem_cons.mpr ⟨zg_9 153 (by decide +kernel) rfl, fun _ h => nomatch h⟩⟩⟩⟩, ⟨by decide +kernel, by decide +kernel, by decide +kernel⟩, by decide⟩
theorem vX12_prints : zcV mX12_prints 1 := ⟨List.forall_mem_cons.mpr ⟨zg_9 187 (by decide +kernel) rfl, List.forall_mem_cons.mpr ⟨zgood_in 79 (by decide +kernel) rfl, List.forall_mem_cons.mpr ⟨zg_1 11 (by decide +kernel) rfl, List.forall_mem_cons.mpr ⟨zg_9 188 (by decide +kernel) rfl, fun _ h => nomatch h⟩⟩⟩⟩, ⟨by decide +kernel, by decide +kernel, by decide +kernel⟩, by decide⟩
theorem vX12_does : zcV mX12_does 2 := ⟨List.forall_mem_cons.mpr ⟨zg_9 183 (by decide +kernel) rfl, List.forall_mem_cons.mpr ⟨zgood_in 78 (by decide +kernel) rfl, List.forall_mem_cons.mpr ⟨zg_1 11 (by decide +kernel) rfl, List.forall_mem_cons.mpr ⟨zg_9 184 (by decide +kernel) rfl, fun _ h => nomatch h⟩⟩⟩⟩, ⟨by decide +kernel, by decide +kernel, by decide +kernel⟩, by decide⟩
theorem vX12_canPrint : zcV mX12_canPrint 0 := ⟨List.forall_mem_cons.mpr ⟨zg_9 179 (by decide +kernel) rfl, List.forall_mem_cons.mpr ⟨zgood_in 77 (by decide +kernel) rfl, List.forall_mem_cons.mpr ⟨zg_1 11 (by decide +kernel) rfl, List.forall_mem_cons.mpr ⟨zg_9 180 (by decide +kernel) rfl, fun _ h => nomatch h⟩⟩⟩⟩, ⟨by decide +kernel, by decide +kernel, by decide +kernel⟩, by decide⟩
theorem vX12_works : zcV mX12_works 2 := ⟨List.forall_mem_cons.mpr ⟨zg_9 156 (by decide +kernel) rfl, List.forall_mem_cons.mpr ⟨zgood_in 72 (by decide +kernel) rfl, List.forall_mem_cons.mpr ⟨zg_1 11 (by decide +kernel) rfl, List.forall_mem_cons.mpr ⟨zg_9 157 (by decide +kernel) rfl, fun _ h => nomatch h⟩⟩⟩⟩, ⟨by decide +kernel, by decide +kernel, by decide +kernel⟩, by decide⟩
theorem vX12_day : zcV mX12_day 1 := ⟨List.forall_mem_cons.mpr ⟨zg_9 148 (by decide +kernel) rfl, List.forall_mem_cons.mpr ⟨zgood_in 70 (by decide +kernel) rfl, List.forall_mem_cons.mpr ⟨zg_1 11 (by decide +kernel) rfl, List.forall_mem_cons.mpr ⟨zg_9 149 (by decide +kernel) rfl, fun _ h => nomatch h⟩⟩⟩⟩, ⟨by decide +kernel, by decide +kernel, by decide +kernel⟩, by decide⟩
theorem vX12_days : zcV mX12_days 1 := ⟨List.forall_mem_cons.mpr ⟨zg_9 143 (by decide +kernel) rfl, List.forall_mem_cons.mpr ⟨zg_9 144 (by decide +kernel) rfl, List.forall_mem_cons.mpr ⟨zg_1 11 (by decide +kernel) rfl, List.forall_mem_cons.mpr ⟨zg_9 145 (by decide +kernel) rfl, fun _ h => nomatch h⟩⟩⟩⟩, ⟨by decide +kernel, by decide +kernel, by decide +kernel⟩, by decide⟩
theorem vX12_refuse : zcV mX12_refuse 1 := ⟨List.forall_mem_cons.mpr ⟨zg_9 190 (by decide +kernel) rfl, List.forall_mem_cons.mpr ⟨zg_9 191 (by decide +kernel) rfl, List.forall_mem_cons.mpr ⟨zg_1 11 (by decide +kernel) rfl, List.forall_mem_cons.mpr ⟨zg_9 192 (by decide +kernel) rfl, fun _ h => nomatch h⟩⟩⟩⟩, ⟨by decide +kernel, by decide +kernel, by decide +kernel⟩, by decide⟩
theorem vX12_lose : zcV mX12_lose 1 := ⟨List.forall_mem_cons.mpr ⟨zg_9 194 (by decide +kernel) rfl, List.forall_mem_cons.mpr ⟨zg_9 195 (by decide +kernel) rfl, List.forall_mem_cons.mpr ⟨zg_1 11 (by decide +kernel) rfl, List.forall_mem_cons.mpr ⟨zg_9 196 (by decide +kernel) rfl, fun _ h => nomatch h⟩⟩⟩⟩, ⟨by decide +kernel, by decide +kernel, by decide +kernel⟩, by decide⟩
theorem vX12_again : zcV mX12_again 1 := ⟨List.forall_mem_cons.mpr ⟨zg_9 198 (by decide +kernel) rfl, List.forall_mem_cons.mpr ⟨zg_9 199 (by decide +kernel) rfl, List.forall_mem_cons.mpr ⟨zg_1 11 (by decide +kernel) rfl, List.forall_mem_cons.mpr ⟨zg_9 200 (by decide +kernel) rfl, fun _ h => nomatch h⟩⟩⟩⟩, ⟨by decide +kernel, by decide +kernel, by decide +kernel⟩, by decide⟩
theorem vX12_led : zcV mX12_led 2 := ⟨List.forall_mem_cons.mpr ⟨zg_9 202 (by decide +kernel) rfl, List.forall_mem_cons.mpr ⟨zg_9 203 (by decide +kernel) rfl, List.forall_mem_cons.mpr ⟨zg_1 11 (by decide +kernel) rfl, List.forall_mem_cons.mpr ⟨zg_9 204 (by decide +kernel) rfl, fun _ h => nomatch h⟩⟩⟩⟩, ⟨by decide +kernel, by decide +kernel, by decide +kernel⟩, by decide⟩
theorem vX12_queue : zcV mX12_queue 1 := ⟨List.forall_mem_cons.mpr ⟨zg_9 206 (by decide +kernel) rfl, List.forall_mem_cons.mpr ⟨zg_9 207 (by decide +kernel) rfl, List.forall_mem_cons.mpr ⟨zg_1 11 (by decide +kernel) rfl, List.forall_mem_cons.mpr ⟨zg_9 208 (by decide +kernel) rfl, fun _ h => nomatch h⟩⟩⟩⟩, ⟨by decide +kernel, by decide +kernel, by decide +kernel⟩, by decide⟩
theorem vX12_ahead : zcV mX12_ahead 1 := ⟨List.forall_mem_cons.mpr ⟨zg_9 210 (by decide +kernel) rfl, List.forall_mem_cons.mpr ⟨zg_9 211 (by decide +kernel) rfl, List.forall_mem_cons.mpr ⟨zg_1 11 (by decide +kernel) rfl, List.forall_mem_cons.mpr ⟨zg_9 212 (by decide +kernel) rfl, fun _ h => nomatch h⟩⟩⟩⟩, ⟨by decide +kernel, by decide +kernel, by decide +kernel⟩, by decide⟩
theorem vX12_booklet : zcV mX12_booklet 2 := ⟨List.forall_mem_cons.mpr ⟨zg_9 214 (by decide +kernel) rfl, List.forall_mem_cons.mpr ⟨zg_9 215 (by decide +kernel) rfl, List.forall_mem_cons.mpr ⟨zg_1 11 (by decide +kernel) rfl, List.forall_mem_cons.mpr ⟨zg_9 216 (by decide +kernel) rfl, fun _ h => nomatch h⟩⟩⟩⟩, ⟨by decide +kernel, by decide +kernel, by decide +kernel⟩, by decide⟩
theorem vX12_valid : zcV mX12_valid 2 := ⟨List.forall_mem_cons.mpr ⟨zg_9 218 (by decide +kernel) rfl, List.forall_mem_cons.mpr ⟨zg_9 219 (by decide +kernel) rfl, List.forall_mem_cons.mpr ⟨zg_1 11 (by decide +kernel) rfl, List.forall_mem_cons.mpr ⟨zg_9 220 (by decide +kernel) rfl, fun _ h => nomatch h⟩⟩⟩⟩, ⟨by decide +kernel, by decide +kernel, by decide +kernel⟩, by decide⟩
theorem vX12_missed : zcV mX12_missed 2 := ⟨List.forall_mem_cons.mpr ⟨zg_9 222 (by decide +kernel) rfl, List.forall_mem_cons.mpr ⟨zg_9 223 (by decide +kernel) rfl, List.forall_mem_cons.mpr ⟨zg_1 11 (by decide +kernel) rfl, List.forall_mem_cons.mpr ⟨zg_9 224 (by decide +kernel) rfl, fun _ h => nomatch h⟩⟩⟩⟩, ⟨by decide +kernel, by decide +kernel, by decide +kernel⟩, by decide⟩
theorem vX12_waits : zcV mX12_waits 2 := ⟨List.forall_mem_cons.mpr ⟨zg_9 226 (by decide +kernel) rfl, List.forall_mem_cons.mpr ⟨zg_9 227 (by decide +kernel) rfl, List.forall_mem_cons.mpr ⟨zg_1 11 (by decide +kernel) rfl, List.forall_mem_cons.mpr ⟨zg_9 228 (by decide +kernel) rfl, fun _ h => nomatch h⟩⟩⟩⟩, ⟨by decide +kernel, by decide +kernel, by decide +kernel⟩, by decide⟩
theorem vX12_ends : zcV mX12_ends 2 := ⟨List.forall_mem_cons.mpr ⟨zg_9 230 (by decide +kernel) rfl, List.forall_mem_cons.mpr ⟨zg_9 231 (by decide +kernel) rfl, List.forall_mem_cons.mpr ⟨zg_1 11 (by decide +kernel) rfl, List.forall_mem_cons.mpr ⟨zg_9 232 (by decide +kernel) rfl, fun _ h => nomatch h⟩⟩⟩⟩, ⟨by decide +kernel, by decide +kernel, by decide +kernel⟩, by decide⟩
theorem vX12_inState : zcV mX12_inState 2 := ⟨List.forall_mem_cons.mpr ⟨zg_9 239 (by decide +kernel) rfl, List.forall_mem_cons.mpr ⟨zgood_in 80 (by decide +kernel) rfl, List.forall_mem_cons.mpr ⟨zg_1 11 (by decide +kernel) rfl, List.forall_mem_cons.mpr ⟨zg_10 0 (by decide +kernel) rfl, fun _ h => nomatch h⟩⟩⟩⟩, ⟨by decide +kernel, by decide +kernel, by decide +kernel⟩, by decide⟩
theorem vX12_count : zcV mX12_count 1 := ⟨List.forall_mem_cons.mpr ⟨zg_9 234 (by decide +kernel) rfl, List.forall_mem_cons.mpr ⟨zg_9 235 (by decide +kernel) rfl, List.forall_mem_cons.mpr ⟨zg_1 11 (by decide +kernel) rfl, List.forall_mem_cons.mpr ⟨zg_9 236 (by decide +kernel) rfl, fun _ h => nomatch h⟩⟩⟩⟩, ⟨by decide +kernel, by decide +kernel, by decide +kernel⟩, by decide⟩
theorem iJ5_init_d00df : zcI mJ5_init_d00df 1 := ⟨List.forall_mem_cons.mpr ⟨zg_6 149 (by decide +kernel) rfl, List.forall_mem_cons.mpr ⟨zg_1 34 (by decide +kernel) rfl, List.forall_mem_cons.mpr ⟨zg_6 150 (by decide +kernel) rfl, fun _ h => nomatch h⟩⟩⟩, ⟨by decide +kernel, by decide +kernel, by decide +kernel⟩, by decide, rfl, rfl⟩
theorem sJ6_getChars_ba4f3 : zcS mJ6_getChars_ba4f3 3 := ⟨List.forall_mem_cons.mpr ⟨zg_6 207 (by decide +kernel) rfl, List.forall_mem_cons.mpr ⟨zg_1 37 (by decide +kernel) rfl, List.forall_mem_cons.mpr ⟨zg_6 208 (by decide +kernel) rfl, fun _ h => nomatch h⟩⟩⟩, ⟨by decide +kernel, by decide +kernel, by decide +kernel⟩, by decide⟩
theorem sJ6_stringSize_0f7a4 : zcS mJ6_stringSize_0f7a4 1 := ⟨List.forall_mem_cons.mpr ⟨zg_6 181 (by decide +kernel) rfl, List.forall_mem_cons.mpr ⟨zg_1 37 (by decide +kernel) rfl, List.forall_mem_cons.mpr ⟨zg_6 182 (by decide +kernel) rfl, fun _ h => nomatch h⟩⟩⟩, ⟨by decide +kernel, by decide +kernel, by decide +kernel⟩, by decide⟩
theorem sJ9_floorDiv_7cf53 : zcS mJ9_floorDiv_7cf53 2 := ⟨List.forall_mem_cons.mpr ⟨zg_9 95 (by decide +kernel) rfl, List.forall_mem_cons.mpr ⟨zg_1 13 (by decide +kernel) rfl, List.forall_mem_cons.mpr ⟨zg_9 96 (by decide +kernel) rfl, fun _ h => nomatch h⟩⟩⟩, ⟨by decide +kernel, by decide +kernel, by decide +kernel⟩, by decide⟩
theorem sJ9_max_7cf53 : zcS mJ9_max_7cf53 2 := ⟨List.forall_mem_cons.mpr ⟨zg_3 109 (by decide +kernel) rfl, List.forall_mem_cons.mpr ⟨zg_1 13 (by decide +kernel) rfl, List.forall_mem_cons.mpr ⟨zg_3 110 (by decide +kernel) rfl, fun _ h => nomatch h⟩⟩⟩, ⟨by decide +kernel, by decide +kernel, by decide +kernel⟩, by decide⟩
theorem sJ9_min_7cf53 : zcS mJ9_min_7cf53 2 := ⟨List.forall_mem_cons.mpr ⟨zg_2 162 (by decide +kernel) rfl, List.forall_mem_cons.mpr ⟨zg_1 13 (by decide +kernel) rfl, List.forall_mem_cons.mpr ⟨zg_2 163 (by decide +kernel) rfl, fun _ h => nomatch h⟩⟩⟩, ⟨by decide +kernel, by decide +kernel, by decide +kernel⟩, by decide⟩
theorem iJ0_init_81219 : zcI mJ0_init_81219 1 := ⟨List.forall_mem_cons.mpr ⟨zg_7 50 (by decide +kernel) rfl, List.forall_mem_cons.mpr ⟨zg_1 19 (by decide +kernel) rfl, List.forall_mem_cons.mpr ⟨zg_7 51 (by decide +kernel) rfl, fun _ h => nomatch h⟩⟩⟩, ⟨by decide +kernel, by decide +kernel, by decide +kernel⟩, by decide, rfl, rfl⟩
theorem vJ0_length_8abf5 : zcV mJ0_length_8abf5 0 := ⟨List.forall_mem_cons.mpr ⟨zg_3 17 (by decide +kernel) rfl, List.forall_mem_cons.mpr ⟨zg_3 18 (by decide +kernel) rfl, List.forall_mem_cons.mpr ⟨zg_1 19 (by decide +kernel) rfl, List.forall_mem_cons.mpr ⟨zg_3 19 (by decide +kernel) rfl, fun _ h => nomatch h⟩⟩⟩⟩, ⟨by decide +kernel, by decide +kernel, by decide +kernel⟩, by decide⟩
theorem vJ0_charAt_5068e : zcV mJ0_charAt_5068e 1 := ⟨List.forall_mem_cons.mpr ⟨zg_3 27 (by decide +kernel) rfl, List.forall_mem_cons.mpr ⟨zg_3 28 (by decide +kernel) rfl, List.forall_mem_cons.mpr ⟨zg_1 19 (by decide +kernel) rfl, List.forall_mem_cons.mpr ⟨zg_3 29 (by decide +kernel) rfl, fun _ h => nomatch h⟩⟩⟩⟩, ⟨by decide +kernel, by decide +kernel, by decide +kernel⟩, by decide⟩
theorem vJ0_getBytes_840e7 : zcV mJ0_getBytes_840e7 3 := ⟨List.forall_mem_cons.mpr ⟨zg_7 38 (by decide +kernel) rfl, List.forall_mem_cons.mpr ⟨zg_7 39 (by decide +kernel) rfl, List.forall_mem_cons.mpr ⟨zg_1 19 (by decide +kernel) rfl, List.forall_mem_cons.mpr ⟨zg_7 40 (by decide +kernel) rfl, fun _ h => nomatch h⟩⟩⟩⟩, ⟨by decide +kernel, by decide +kernel, by decide +kernel⟩, by decide⟩
theorem iJ0_init_db425 : zcI mJ0_init_db425 2 := ⟨List.forall_mem_cons.mpr ⟨zg_7 53 (by decide +kernel) rfl, List.forall_mem_cons.mpr ⟨zg_1 19 (by decide +kernel) rfl, List.forall_mem_cons.mpr ⟨zg_7 54 (by decide +kernel) rfl, fun _ h => nomatch h⟩⟩⟩, ⟨by decide +kernel, by decide +kernel, by decide +kernel⟩, by decide, rfl, rfl⟩
theorem vJ0_coder_7d493 : zcV mJ0_coder_7d493 0 := ⟨List.forall_mem_cons.mpr ⟨zg_3 21 (by decide +kernel) rfl, List.forall_mem_cons.mpr ⟨zg_3 22 (by decide +kernel) rfl, List.forall_mem_cons.mpr ⟨zg_1 19 (by decide +kernel) rfl, List.forall_mem_cons.mpr ⟨zg_3 23 (by decide +kernel) rfl, fun _ h => nomatch h⟩⟩⟩⟩, ⟨by decide +kernel, by decide +kernel, by decide +kernel⟩, by decide⟩
theorem vJ0_isLatin1_aae02 : zcV mJ0_isLatin1_aae02 0 := ⟨List.forall_mem_cons.mpr ⟨zg_3 31 (by decide +kernel) rfl, List.forall_mem_cons.mpr ⟨zg_3 32 (by decide +kernel) rfl, List.forall_mem_cons.mpr ⟨zg_1 19 (by decide +kernel) rfl, List.forall_mem_cons.mpr ⟨zg_3 33 (by decide +kernel) rfl, fun _ h => nomatch h⟩⟩⟩⟩, ⟨by decide +kernel, by decide +kernel, by decide +kernel⟩, by decide⟩
theorem sJ0_checkIndex_df160 : zcS mJ0_checkIndex_df160 2 := ⟨List.forall_mem_cons.mpr ⟨zg_3 38 (by decide +kernel) rfl, List.forall_mem_cons.mpr ⟨zg_1 19 (by decide +kernel) rfl, List.forall_mem_cons.mpr ⟨zg_3 39 (by decide +kernel) rfl, fun _ h => nomatch h⟩⟩⟩, ⟨by decide +kernel, by decide +kernel, by decide +kernel⟩, by decide⟩
theorem sJ0_checkBoundsOffCount_cabcc : zcS mJ0_checkBoundsOffCount_cabcc 3 := ⟨List.forall_mem_cons.mpr ⟨zg_7 32 (by decide +kernel) rfl, List.forall_mem_cons.mpr ⟨zg_1 19 (by decide +kernel) rfl, List.forall_mem_cons.mpr ⟨zg_7 33 (by decide +kernel) rfl, fun _ h => nomatch h⟩⟩⟩, ⟨by decide +kernel, by decide +kernel, by decide +kernel⟩, by decide⟩
theorem sJ0_checkBoundsBeginEnd_23922 : zcS mJ0_checkBoundsBeginEnd_23922 3 := ⟨List.forall_mem_cons.mpr ⟨zg_6 220 (by decide +kernel) rfl, List.forall_mem_cons.mpr ⟨zg_1 19 (by decide +kernel) rfl, List.forall_mem_cons.mpr ⟨zg_6 221 (by decide +kernel) rfl, fun _ h => nomatch h⟩⟩⟩, ⟨by decide +kernel, by decide +kernel, by decide +kernel⟩, by decide⟩
theorem iJ4_init_da8c8 : zcI mJ4_init_da8c8 0 := ⟨List.forall_mem_cons.mpr ⟨zg_6 146 (by decide +kernel) rfl, List.forall_mem_cons.mpr ⟨zg_1 35 (by decide +kernel) rfl, List.forall_mem_cons.mpr ⟨zg_6 147 (by decide +kernel) rfl, fun _ h => nomatch h⟩⟩⟩, ⟨by decide +kernel, by decide +kernel, by decide +kernel⟩, by decide, rfl, rfl⟩
theorem vJ4_append_15ec4 : zcV mJ4_append_15ec4 1 := ⟨List.forall_mem_cons.mpr ⟨zg_6 235 (by decide +kernel) rfl, List.forall_mem_cons.mpr ⟨zg_6 236 (by decide +kernel) rfl, List.forall_mem_cons.mpr ⟨zg_1 35 (by decide +kernel) rfl, List.forall_mem_cons.mpr ⟨zg_6 237 (by decide +kernel) rfl, fun _ h => nomatch h⟩⟩⟩⟩, ⟨by decide +kernel, by decide +kernel, by decide +kernel⟩, by decide⟩
theorem vJ4_append_bf812 : zcV mJ4_append_bf812 1 := ⟨List.forall_mem_cons.mpr ⟨zg_6 174 (by decide +kernel) rfl, List.forall_mem_cons.mpr ⟨zg_6 175 (by decide +kernel) rfl, List.forall_mem_cons.mpr ⟨zg_1 35 (by decide +kernel) rfl, List.forall_mem_cons.mpr ⟨zg_6 176 (by decide +kernel) rfl, fun _ h => nomatch h⟩⟩⟩⟩, ⟨by decide +kernel, by decide +kernel, by decide +kernel⟩, by decide⟩
theorem vJ4_toString_0e30d : zcV mJ4_toString_0e30d 0 := ⟨List.forall_mem_cons.mpr ⟨zg_7 44 (by decide +kernel) rfl, List.forall_mem_cons.mpr ⟨zg_7 45 (by decide +kernel) rfl, List.forall_mem_cons.mpr ⟨zg_1 35 (by decide +kernel) rfl, List.forall_mem_cons.mpr ⟨zg_7 46 (by decide +kernel) rfl, fun _ h => nomatch h⟩⟩⟩⟩, ⟨by decide +kernel, by decide +kernel, by decide +kernel⟩, by decide⟩
theorem sJ1_charAt_3b067 : zcS mJ1_charAt_3b067 2 := ⟨List.forall_mem_cons.mpr ⟨zg_3 35 (by decide +kernel) rfl, List.forall_mem_cons.mpr ⟨zg_1 20 (by decide +kernel) rfl, List.forall_mem_cons.mpr ⟨zg_3 36 (by decide +kernel) rfl, fun _ h => nomatch h⟩⟩⟩, ⟨by decide +kernel, by decide +kernel, by decide +kernel⟩, by decide⟩
theorem sJ1_inflate_0e8fd : zcS mJ1_inflate_0e8fd 5 := ⟨List.forall_mem_cons.mpr ⟨zg_7 23 (by decide +kernel) rfl, List.forall_mem_cons.mpr ⟨zg_1 20 (by decide +kernel) rfl, List.forall_mem_cons.mpr ⟨zg_7 24 (by decide +kernel) rfl, fun _ h => nomatch h⟩⟩⟩, ⟨by decide +kernel, by decide +kernel, by decide +kernel⟩, by decide⟩
theorem sJ2_newBytesFor_77867 : zcS mJ2_newBytesFor_77867 1 := ⟨List.forall_mem_cons.mpr ⟨zg_6 154 (by decide +kernel) rfl, List.forall_mem_cons.mpr ⟨zg_1 22 (by decide +kernel) rfl, List.forall_mem_cons.mpr ⟨zg_6 155 (by decide +kernel) rfl, fun _ h => nomatch h⟩⟩⟩, ⟨by decide +kernel, by decide +kernel, by decide +kernel⟩, by decide⟩
theorem sJ2_newBytesLength_0f7a4 : zcS mJ2_newBytesLength_0f7a4 1 := ⟨List.forall_mem_cons.mpr ⟨zg_6 157 (by decide +kernel) rfl, List.forall_mem_cons.mpr ⟨zg_1 22 (by decide +kernel) rfl, List.forall_mem_cons.mpr ⟨zg_6 158 (by decide +kernel) rfl, fun _ h => nomatch h⟩⟩⟩, ⟨by decide +kernel, by decide +kernel, by decide +kernel⟩, by decide⟩
theorem sJ2_putChar_b72d1 : zcS mJ2_putChar_b72d1 3 := ⟨List.forall_mem_cons.mpr ⟨zg_6 230 (by decide +kernel) rfl, List.forall_mem_cons.mpr ⟨zg_1 22 (by decide +kernel) rfl, List.forall_mem_cons.mpr ⟨zg_6 231 (by decide +kernel) rfl, fun _ h => nomatch h⟩⟩⟩, ⟨by decide +kernel, by decide +kernel, by decide +kernel⟩, by decide⟩
theorem sJ2_getChar_3b067 : zcS mJ2_getChar_3b067 2 := ⟨List.forall_mem_cons.mpr ⟨zg_3 54 (by decide +kernel) rfl, List.forall_mem_cons.mpr ⟨zg_1 22 (by decide +kernel) rfl, List.forall_mem_cons.mpr ⟨zg_3 55 (by decide +kernel) rfl, fun _ h => nomatch h⟩⟩⟩, ⟨by decide +kernel, by decide +kernel, by decide +kernel⟩, by decide⟩
theorem sJ2_length_9d52b : zcS mJ2_length_9d52b 1 := ⟨List.forall_mem_cons.mpr ⟨zg_3 50 (by decide +kernel) rfl, List.forall_mem_cons.mpr ⟨zg_1 22 (by decide +kernel) rfl, List.forall_mem_cons.mpr ⟨zg_3 51 (by decide +kernel) rfl, fun _ h => nomatch h⟩⟩⟩, ⟨by decide +kernel, by decide +kernel, by decide +kernel⟩, by decide⟩
theorem sJ2_coderFromArrayLen_85cad : zcS mJ2_coderFromArrayLen_85cad 2 := ⟨List.forall_mem_cons.mpr ⟨zg_7 84 (by decide +kernel) rfl, List.forall_mem_cons.mpr ⟨zg_1 22 (by decide +kernel) rfl, List.forall_mem_cons.mpr ⟨zg_7 85 (by decide +kernel) rfl, fun _ h => nomatch h⟩⟩⟩, ⟨by decide +kernel, by decide +kernel, by decide +kernel⟩, by decide⟩
theorem sJ2_compress_39247 : zcS mJ2_compress_39247 3 := ⟨List.forall_mem_cons.mpr ⟨zg_7 77 (by decide +kernel) rfl, List.forall_mem_cons.mpr ⟨zg_1 22 (by decide +kernel) rfl, List.forall_mem_cons.mpr ⟨zg_7 78 (by decide +kernel) rfl, fun _ h => nomatch h⟩⟩⟩, ⟨by decide +kernel, by decide +kernel, by decide +kernel⟩, by decide⟩
theorem sJ2_compress_5af95 : zcS mJ2_compress_5af95 5 := ⟨List.forall_mem_cons.mpr ⟨zg_7 80 (by decide +kernel) rfl, List.forall_mem_cons.mpr ⟨zg_1 22 (by decide +kernel) rfl, List.forall_mem_cons.mpr ⟨zg_7 81 (by decide +kernel) rfl, fun _ h => nomatch h⟩⟩⟩, ⟨by decide +kernel, by decide +kernel, by decide +kernel⟩, by decide⟩
theorem sJ2_getChars_46870 : zcS mJ2_getChars_46870 4 := ⟨List.forall_mem_cons.mpr ⟨zg_6 214 (by decide +kernel) rfl, List.forall_mem_cons.mpr ⟨zg_1 22 (by decide +kernel) rfl, List.forall_mem_cons.mpr ⟨zg_6 215 (by decide +kernel) rfl, fun _ h => nomatch h⟩⟩⟩, ⟨by decide +kernel, by decide +kernel, by decide +kernel⟩, by decide⟩
theorem sJ2_putCharsAt_cd4e5 : zcS mJ2_putCharsAt_cd4e5 6 := ⟨List.forall_mem_cons.mpr ⟨zg_7 6 (by decide +kernel) rfl, List.forall_mem_cons.mpr ⟨zg_1 22 (by decide +kernel) rfl, List.forall_mem_cons.mpr ⟨zg_7 7 (by decide +kernel) rfl, fun _ h => nomatch h⟩⟩⟩, ⟨by decide +kernel, by decide +kernel, by decide +kernel⟩, by decide⟩
theorem sJ2_charAt_3b067 : zcS mJ2_charAt_3b067 2 := ⟨List.forall_mem_cons.mpr ⟨zg_3 44 (by decide +kernel) rfl, List.forall_mem_cons.mpr ⟨zg_1 22 (by decide +kernel) rfl, List.forall_mem_cons.mpr ⟨zg_3 45 (by decide +kernel) rfl, fun _ h => nomatch h⟩⟩⟩, ⟨by decide +kernel, by decide +kernel, by decide +kernel⟩, by decide⟩
theorem sJ2_inflate_0e8fd : zcS mJ2_inflate_0e8fd 5 := ⟨List.forall_mem_cons.mpr ⟨zg_7 26 (by decide +kernel) rfl, List.forall_mem_cons.mpr ⟨zg_1 22 (by decide +kernel) rfl, List.forall_mem_cons.mpr ⟨zg_7 27 (by decide +kernel) rfl, fun _ h => nomatch h⟩⟩⟩, ⟨by decide +kernel, by decide +kernel, by decide +kernel⟩, by decide⟩
theorem sJ2_getChars_ba4f3 : zcS mJ2_getChars_ba4f3 3 := ⟨List.forall_mem_cons.mpr ⟨zg_6 226 (by decide +kernel) rfl, List.forall_mem_cons.mpr ⟨zg_1 22 (by decide +kernel) rfl, List.forall_mem_cons.mpr ⟨zg_6 227 (by decide +kernel) rfl, fun _ h => nomatch h⟩⟩⟩, ⟨by decide +kernel, by decide +kernel, by decide +kernel⟩, by decide⟩
theorem sJ2_checkIndex_2214a : zcS mJ2_checkIndex_2214a 2 := ⟨List.forall_mem_cons.mpr ⟨zg_3 47 (by decide +kernel) rfl, List.forall_mem_cons.mpr ⟨zg_1 22 (by decide +kernel) rfl, List.forall_mem_cons.mpr ⟨zg_3 48 (by decide +kernel) rfl, fun _ h => nomatch h⟩⟩⟩, ⟨by decide +kernel, by decide +kernel, by decide +kernel⟩, by decide⟩
theorem sJ2_checkBoundsBeginEnd_d044e : zcS mJ2_checkBoundsBeginEnd_d044e 3 := ⟨List.forall_mem_cons.mpr ⟨zg_6 217 (by decide +kernel) rfl, List.forall_mem_cons.mpr ⟨zg_1 22 (by decide +kernel) rfl, List.forall_mem_cons.mpr ⟨zg_6 218 (by decide +kernel) rfl, fun _ h => nomatch h⟩⟩⟩, ⟨by decide +kernel, by decide +kernel, by decide +kernel⟩, by decide⟩
theorem sJ2_checkBoundsOffCount_d044e : zcS mJ2_checkBoundsOffCount_d044e 3 := ⟨List.forall_mem_cons.mpr ⟨zg_7 29 (by decide +kernel) rfl, List.forall_mem_cons.mpr ⟨zg_1 22 (by decide +kernel) rfl, List.forall_mem_cons.mpr ⟨zg_7 30 (by decide +kernel) rfl, fun _ h => nomatch h⟩⟩⟩, ⟨by decide +kernel, by decide +kernel, by decide +kernel⟩, by decide⟩
theorem iJxa1e45_init_da8c8 : zcI mJxa1e45_init_da8c8 0 := ⟨List.forall_mem_cons.mpr ⟨zg_1 55 (by decide +kernel) rfl, List.forall_mem_cons.mpr ⟨zg_1 2 (by decide +kernel) rfl, List.forall_mem_cons.mpr ⟨zg_1 56 (by decide +kernel) rfl, fun _ h => nomatch h⟩⟩⟩, ⟨by decide +kernel, by decide +kernel, by decide +kernel⟩, by decide, rfl, rfl⟩
theorem iJxc12de_init_da8c8 : zcI mJxc12de_init_da8c8 0 := ⟨List.forall_mem_cons.mpr ⟨zg_1 52 (by decide +kernel) rfl, List.forall_mem_cons.mpr ⟨zg_1 3 (by decide +kernel) rfl, List.forall_mem_cons.mpr ⟨zg_1 53 (by decide +kernel) rfl, fun _ h => nomatch h⟩⟩⟩, ⟨by decide +kernel, by decide +kernel, by decide +kernel⟩, by decide, rfl, rfl⟩
theorem iJx4a65c_init_da8c8 : zcI mJx4a65c_init_da8c8 0 := ⟨List.forall_mem_cons.mpr ⟨zg_1 49 (by decide +kernel) rfl, List.forall_mem_cons.mpr ⟨zg_1 4 (by decide +kernel) rfl, List.forall_mem_cons.mpr ⟨zg_1 50 (by decide +kernel) rfl, fun _ h => nomatch h⟩⟩⟩, ⟨by decide +kernel, by decide +kernel, by decide +kernel⟩, by decide, rfl, rfl⟩
theorem vJx4a65c_grow_92f84 : zcV mJx4a65c_grow_92f84 1 := ⟨List.forall_mem_cons.mpr ⟨zg_3 141 (by decide +kernel) rfl, List.forall_mem_cons.mpr ⟨zgood_in 18 (by decide +kernel) rfl, List.forall_mem_cons.mpr ⟨zg_1 4 (by decide +kernel) rfl, List.forall_mem_cons.mpr ⟨zg_3 142 (by decide +kernel) rfl, fun _ h => nomatch h⟩⟩⟩⟩, ⟨by decide +kernel, by decide +kernel, by decide +kernel⟩, by decide⟩
theorem vJx4a65c_grow_d5877 : zcV mJx4a65c_grow_d5877 0 := ⟨List.forall_mem_cons.mpr ⟨zg_3 137 (by decide +kernel) rfl, List.forall_mem_cons.mpr ⟨zgood_in 17 (by decide +kernel) rfl, List.forall_mem_cons.mpr ⟨zg_1 4 (by decide +kernel) rfl, List.forall_mem_cons.mpr ⟨zg_3 138 (by decide +kernel) rfl, fun _ h => nomatch h⟩⟩⟩⟩, ⟨by decide +kernel, by decide +kernel, by decide +kernel⟩, by decide⟩
theorem vJx4a65c_size_8abf5 : zcV mJx4a65c_size_8abf5 0 := ⟨List.forall_mem_cons.mpr ⟨zg_2 97 (by decide +kernel) rfl, List.forall_mem_cons.mpr ⟨zg_2 98 (by decide +kernel) rfl, List.forall_mem_cons.mpr ⟨zg_1 4 (by decide +kernel) rfl, List.forall_mem_cons.mpr ⟨zg_2 99 (by decide +kernel) rfl, fun _ h => nomatch h⟩⟩⟩⟩, ⟨by decide +kernel, by decide +kernel, by decide +kernel⟩, by decide⟩
theorem vJx4a65c_elementData_915e3 : zcV mJx4a65c_elementData_915e3 1 := ⟨List.forall_mem_cons.mpr ⟨zg_2 111 (by decide +kernel) rfl, List.forall_mem_cons.mpr ⟨zg_2 112 (by decide +kernel) rfl, List.forall_mem_cons.mpr ⟨zg_1 4 (by decide +kernel) rfl, List.forall_mem_cons.mpr ⟨zg_2 113 (by decide +kernel) rfl, fun _ h => nomatch h⟩⟩⟩⟩, ⟨by decide +kernel, by decide +kernel, by decide +kernel⟩, by decide⟩
theorem vJx4a65c_get_915e3 : zcV mJx4a65c_get_915e3 1 := ⟨List.forall_mem_cons.mpr ⟨zg_2 101 (by decide +kernel) rfl, List.forall_mem_cons.mpr ⟨zg_2 102 (by decide +kernel) rfl, List.forall_mem_cons.mpr ⟨zg_1 4 (by decide +kernel) rfl, List.forall_mem_cons.mpr ⟨zg_2 103 (by decide +kernel) rfl, fun _ h => nomatch h⟩⟩⟩⟩, ⟨by decide +kernel, by decide +kernel, by decide +kernel⟩, by decide⟩
theorem vJx4a65c_add_72be8 : zcV mJx4a65c_add_72be8 3 := ⟨List.forall_mem_cons.mpr ⟨zg_3 133 (by decide +kernel) rfl, List.forall_mem_cons.mpr ⟨zgood_in 16 (by decide +kernel) rfl, List.forall_mem_cons.mpr ⟨zg_1 4 (by decide +kernel) rfl, List.forall_mem_cons.mpr ⟨zg_3 134 (by decide +kernel) rfl, fun _ h => nomatch h⟩⟩⟩⟩, ⟨by decide +kernel, by decide +kernel, by decide +kernel⟩, by decide⟩
theorem vJx4a65c_add_9ea2d : zcV mJx4a65c_add_9ea2d 1 := ⟨List.forall_mem_cons.mpr ⟨zg_3 128 (by decide +kernel) rfl, List.forall_mem_cons.mpr ⟨zg_3 129 (by decide +kernel) rfl, List.forall_mem_cons.mpr ⟨zg_1 4 (by decide +kernel) rfl, List.forall_mem_cons.mpr ⟨zg_3 130 (by decide +kernel) rfl, fun _ h => nomatch h⟩⟩⟩⟩, ⟨by decide +kernel, by decide +kernel, by decide +kernel⟩, by decide⟩
theorem sJ7_fill_53178 : zcS mJ7_fill_53178 2 := ⟨List.forall_mem_cons.mpr ⟨zg_4 38 (by decide +kernel) rfl, List.forall_mem_cons.mpr ⟨zg_1 12 (by decide +kernel) rfl, List.forall_mem_cons.mpr ⟨zg_4 39 (by decide +kernel) rfl, fun _ h => nomatch h⟩⟩⟩, ⟨by decide +kernel, by decide +kernel, by decide +kernel⟩, by decide⟩
theorem sJ7_copyOf_1904c : zcS mJ7_copyOf_1904c 2 := ⟨List.forall_mem_cons.mpr ⟨zg_3 152 (by decide +kernel) rfl, List.forall_mem_cons.mpr ⟨zg_1 12 (by decide +kernel) rfl, List.forall_mem_cons.mpr ⟨zg_3 153 (by decide +kernel) rfl, fun _ h => nomatch h⟩⟩⟩, ⟨by decide +kernel, by decide +kernel, by decide +kernel⟩, by decide⟩
theorem sJ7_copyOf_6403c : zcS mJ7_copyOf_6403c 3 := ⟨List.forall_mem_cons.mpr ⟨zg_3 180 (by decide +kernel) rfl, List.forall_mem_cons.mpr ⟨zg_1 12 (by decide +kernel) rfl, List.forall_mem_cons.mpr ⟨zg_3 181 (by decide +kernel) rfl, fun _ h => nomatch h⟩⟩⟩, ⟨by decide +kernel, by decide +kernel, by decide +kernel⟩, by decide⟩
theorem sJ7_copyOf_9075b : zcS mJ7_copyOf_9075b 2 := ⟨List.forall_mem_cons.mpr ⟨zg_6 194 (by decide +kernel) rfl, List.forall_mem_cons.mpr ⟨zg_1 12 (by decide +kernel) rfl, List.forall_mem_cons.mpr ⟨zg_6 195 (by decide +kernel) rfl, fun _ h => nomatch h⟩⟩⟩, ⟨by decide +kernel, by decide +kernel, by decide +kernel⟩, by decide⟩
theorem sJ7_copyOf_59c91 : zcS mJ7_copyOf_59c91 2 := ⟨List.forall_mem_cons.mpr ⟨zg_2 152 (by decide +kernel) rfl, List.forall_mem_cons.mpr ⟨zg_1 12 (by decide +kernel) rfl, List.forall_mem_cons.mpr ⟨zg_2 153 (by decide +kernel) rfl, fun _ h => nomatch h⟩⟩⟩, ⟨by decide +kernel, by decide +kernel, by decide +kernel⟩, by decide⟩
theorem sJ7_checkLength_df160 : zcS mJ7_checkLength_df160 2 := ⟨List.forall_mem_cons.mpr ⟨zg_6 140 (by decide +kernel) rfl, List.forall_mem_cons.mpr ⟨zg_1 12 (by decide +kernel) rfl, List.forall_mem_cons.mpr ⟨zg_6 141 (by decide +kernel) rfl, fun _ h => nomatch h⟩⟩⟩, ⟨by decide +kernel, by decide +kernel, by decide +kernel⟩, by decide⟩
theorem sJ7_copyOfRange_39247 : zcS mJ7_copyOfRange_39247 3 := ⟨List.forall_mem_cons.mpr ⟨zg_7 71 (by decide +kernel) rfl, List.forall_mem_cons.mpr ⟨zg_1 12 (by decide +kernel) rfl, List.forall_mem_cons.mpr ⟨zg_7 72 (by decide +kernel) rfl, fun _ h => nomatch h⟩⟩⟩, ⟨by decide +kernel, by decide +kernel, by decide +kernel⟩, by decide⟩
theorem sJ7_copyOfRangeByte_39247 : zcS mJ7_copyOfRangeByte_39247 3 := ⟨List.forall_mem_cons.mpr ⟨zg_7 74 (by decide +kernel) rfl, List.forall_mem_cons.mpr ⟨zg_1 12 (by decide +kernel) rfl, List.forall_mem_cons.mpr ⟨zg_7 75 (by decide +kernel) rfl, fun _ h => nomatch h⟩⟩⟩, ⟨by decide +kernel, by decide +kernel, by decide +kernel⟩, by decide⟩
theorem sJ7_copyOfRange_feecc : zcS mJ7_copyOfRange_feecc 3 := ⟨List.forall_mem_cons.mpr ⟨zg_6 134 (by decide +kernel) rfl, List.forall_mem_cons.mpr ⟨zg_1 12 (by decide +kernel) rfl, List.forall_mem_cons.mpr ⟨zg_6 135 (by decide +kernel) rfl, fun _ h => nomatch h⟩⟩⟩, ⟨by decide +kernel, by decide +kernel, by decide +kernel⟩, by decide⟩
theorem sJ7_copyOfRangeInt_feecc : zcS mJ7_copyOfRangeInt_feecc 3 := ⟨List.forall_mem_cons.mpr ⟨zg_6 137 (by decide +kernel) rfl, List.forall_mem_cons.mpr ⟨zg_1 12 (by decide +kernel) rfl, List.forall_mem_cons.mpr ⟨zg_6 138 (by decide +kernel) rfl, fun _ h => nomatch h⟩⟩⟩, ⟨by decide +kernel, by decide +kernel, by decide +kernel⟩, by decide⟩
theorem sJ15_checkIndex_7cf53 : zcS mJ15_checkIndex_7cf53 2 := ⟨List.forall_mem_cons.mpr ⟨zg_2 105 (by decide +kernel) rfl, List.forall_mem_cons.mpr ⟨zg_1 27 (by decide +kernel) rfl, List.forall_mem_cons.mpr ⟨zg_2 106 (by decide +kernel) rfl, fun _ h => nomatch h⟩⟩⟩, ⟨by decide +kernel, by decide +kernel, by decide +kernel⟩, by decide⟩
theorem sJ8_newLength_cabcc : zcS mJ8_newLength_cabcc 3 := ⟨List.forall_mem_cons.mpr ⟨zg_3 144 (by decide +kernel) rfl, List.forall_mem_cons.mpr ⟨zg_1 24 (by decide +kernel) rfl, List.forall_mem_cons.mpr ⟨zg_3 145 (by decide +kernel) rfl, fun _ h => nomatch h⟩⟩⟩, ⟨by decide +kernel, by decide +kernel, by decide +kernel⟩, by decide⟩
theorem sJ8_hugeLength_7cf53 : zcS mJ8_hugeLength_7cf53 2 := ⟨List.forall_mem_cons.mpr ⟨zg_3 149 (by decide +kernel) rfl, List.forall_mem_cons.mpr ⟨zg_1 24 (by decide +kernel) rfl, List.forall_mem_cons.mpr ⟨zg_3 150 (by decide +kernel) rfl, fun _ h => nomatch h⟩⟩⟩, ⟨by decide +kernel, by decide +kernel, by decide +kernel⟩, by decide⟩
theorem sJ3_checkIndex_8e157 : zcS mJ3_checkIndex_8e157 3 := ⟨List.forall_mem_cons.mpr ⟨zg_2 108 (by decide +kernel) rfl, List.forall_mem_cons.mpr ⟨zg_1 21 (by decide +kernel) rfl, List.forall_mem_cons.mpr ⟨zg_2 109 (by decide +kernel) rfl, fun _ h => nomatch h⟩⟩⟩, ⟨by decide +kernel, by decide +kernel, by decide +kernel⟩, by decide⟩
theorem sJ3_checkFromToIndex_8c36e : zcS mJ3_checkFromToIndex_8c36e 4 := ⟨List.forall_mem_cons.mpr ⟨zg_6 223 (by decide +kernel) rfl, List.forall_mem_cons.mpr ⟨zg_1 21 (by decide +kernel) rfl, List.forall_mem_cons.mpr ⟨zg_6 224 (by decide +kernel) rfl, fun _ h => nomatch h⟩⟩⟩, ⟨by decide +kernel, by decide +kernel, by decide +kernel⟩, by decide⟩
theorem sJ3_checkFromIndexSize_8c36e : zcS mJ3_checkFromIndexSize_8c36e 4 := ⟨List.forall_mem_cons.mpr ⟨zg_7 35 (by decide +kernel) rfl, List.forall_mem_cons.mpr ⟨zg_1 21 (by decide +kernel) rfl, List.forall_mem_cons.mpr ⟨zg_7 36 (by decide +kernel) rfl, fun _ h => nomatch h⟩⟩⟩, ⟨by decide +kernel, by decide +kernel, by decide +kernel⟩, by decide⟩
theorem n0_inst : Cond.instantiable (zC 0) (zN 0) ∈ zgood := zg_1 47 (by decide +kernel) rfl
theorem n0_ini : Cond.initialized (zC 0) ∈ zgood := zg_1 4 (by decide +kernel) rfl
theorem n0_obj : Cond.castable (zC 0) "java/lang/Object" ∈ zcast := zh_10 12 (by decide +kernel) rfl
theorem n1_inst : Cond.instantiable (zC 1) (zN 1) ∈ zgood := zg_4 180 (by decide +kernel) rfl
theorem n1_ini : Cond.initialized (zC 1) ∈ zgood := zg_1 30 (by decide +kernel) rfl
theorem n1_obj : Cond.castable (zC 1) "java/lang/Object" ∈ zcast := zh_10 26 (by decide +kernel) rfl
theorem n2_inst : Cond.instantiable (zC 2) (zN 2) ∈ zgood := zg_5 218 (by decide +kernel) rfl
theorem n2_ini : Cond.initialized (zC 2) ∈ zgood := zg_1 33 (by decide +kernel) rfl
theorem n2_obj : Cond.castable (zC 2) "java/lang/Object" ∈ zcast := zh_10 29 (by decide +kernel) rfl
theorem n3_inst : Cond.instantiable (zC 3) (zN 3) ∈ zgood := zg_1 159 (by decide +kernel) rfl
theorem n3_ini : Cond.initialized (zC 3) ∈ zgood := zg_1 8 (by decide +kernel) rfl
theorem n3_obj : Cond.castable (zC 3) "java/lang/Object" ∈ zcast := zh_10 16 (by decide +kernel) rfl
theorem n4_inst : Cond.instantiable (zC 4) (zN 4) ∈ zgood := zg_1 74 (by decide +kernel) rfl
theorem n4_ini : Cond.initialized (zC 4) ∈ zgood := zg_1 5 (by decide +kernel) rfl
theorem n4_obj : Cond.castable (zC 4) "java/lang/Object" ∈ zcast := zh_10 13 (by decide +kernel) rfl
theorem n5_inst : Cond.instantiable (zC 5) (zN 5) ∈ zgood := zg_5 75 (by decide +kernel) rfl
theorem n5_ini : Cond.initialized (zC 5) ∈ zgood := zg_1 32 (by decide +kernel) rfl
theorem n5_obj : Cond.castable (zC 5) "java/lang/Object" ∈ zcast := zh_10 28 (by decide +kernel) rfl
theorem n6_inst : Cond.instantiable (zC 6) (zN 6) ∈ zgood := zg_4 32 (by decide +kernel) rfl
theorem n6_ini : Cond.initialized (zC 6) ∈ zgood := zg_1 28 (by decide +kernel) rfl
theorem n6_obj : Cond.castable (zC 6) "java/lang/Object" ∈ zcast := zh_10 24 (by decide +kernel) rfl
theorem n7_inst : Cond.instantiable (zC 7) (zN 7) ∈ zgood := zg_1 217 (by decide +kernel) rfl
theorem n7_ini : Cond.initialized (zC 7) ∈ zgood := zg_1 10 (by decide +kernel) rfl
theorem n7_obj : Cond.castable (zC 7) "java/lang/Object" ∈ zcast := zh_10 18 (by decide +kernel) rfl
theorem n8_inst : Cond.instantiable (zC 8) (zN 8) ∈ zgood := zg_1 146 (by decide +kernel) rfl
theorem n8_ini : Cond.initialized (zC 8) ∈ zgood := zg_1 7 (by decide +kernel) rfl
theorem n8_obj : Cond.castable (zC 8) "java/lang/Object" ∈ zcast := zh_10 15 (by decide +kernel) rfl
theorem n9_inst : Cond.instantiable (zC 9) (zN 9) ∈ zgood := zg_3 199 (by decide +kernel) rfl
theorem n9_ini : Cond.initialized (zC 9) ∈ zgood := zg_1 25 (by decide +kernel) rfl
theorem n9_obj : Cond.castable (zC 9) "java/lang/Object" ∈ zcast := zh_10 22 (by decide +kernel) rfl
theorem n10_inst : Cond.instantiable (zC 10) (zN 10) ∈ zgood := zg_1 175 (by decide +kernel) rfl
theorem n10_ini : Cond.initialized (zC 10) ∈ zgood := zg_1 9 (by decide +kernel) rfl
theorem n10_obj : Cond.castable (zC 10) "java/lang/Object" ∈ zcast := zh_10 17 (by decide +kernel) rfl
theorem n11_inst : Cond.instantiable (zC 11) (zN 11) ∈ zgood := zg_1 80 (by decide +kernel) rfl
theorem n11_ini : Cond.initialized (zC 11) ∈ zgood := zg_1 6 (by decide +kernel) rfl
theorem n11_obj : Cond.castable (zC 11) "java/lang/Object" ∈ zcast := zh_10 14 (by decide +kernel) rfl
theorem n12_inst : Cond.instantiable (zC 12) (zN 12) ∈ zgood := zg_1 39 (by decide +kernel) rfl
theorem n12_ini : Cond.initialized (zC 12) ∈ zgood := zg_1 1 (by decide +kernel) rfl
theorem n12_obj : Cond.castable (zC 12) "java/lang/Object" ∈ zcast := zh_10 11 (by decide +kernel) rfl
theorem n13_inst : Cond.instantiable (zC 13) (zN 13) ∈ zgood := zg_7 110 (by decide +kernel) rfl
theorem n13_ini : Cond.initialized (zC 13) ∈ zgood := zg_1 11 (by decide +kernel) rfl
theorem n13_obj : Cond.castable (zC 13) "java/lang/Object" ∈ zcast := zh_10 19 (by decide +kernel) rfl
theorem o_inst : Cond.instanceMethod objectInit ∈ zgood := zg_1 44 (by decide +kernel) rfl
theorem o_code : Cond.code objectInit ⟨#[0xb1]⟩ 1 none ∈ zgood := zg_1 45 (by decide +kernel) rfl
-- ('arrayClass', 'Jvm.ClassFile.FieldType.int') 153
-- ('arrayClass', 'Jvm.ClassFile.FieldType.byte') 687
-- ('arrayClass', 'Jvm.ClassFile.FieldType.boolean') 1886
-- ('arrayClass', 'Jvm.ClassFile.FieldType.long') 2242
theorem a_int : Cond.arrayClass (newarray.typeOf .int) ∈ zgood := zg_1 72 (by decide +kernel) rfl
theorem a_byte : Cond.arrayClass (newarray.typeOf .byte) ∈ zgood := zg_3 126 (by decide +kernel) rfl
theorem a_boolean : Cond.arrayClass (newarray.typeOf .boolean) ∈ zgood := zg_8 125 (by decide +kernel) rfl
theorem a_long : Cond.arrayClass (newarray.typeOf .long) ∈ zgood := zg_10 1 (by decide +kernel) rfl
theorem f_same : Cond.sameField "java/util/ArrayList" "java/util/AbstractList" "modCount" "I" ∈ zgood := zg_1 64 (by decide +kernel) rfl
