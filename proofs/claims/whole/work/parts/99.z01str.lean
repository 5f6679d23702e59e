/-! STRINGS: the methods of String on the texts in the code -/
theorem w3_182 : Cond.methodLink RX9 78 yJ0_length_8abf5 ∈ ALL := all_tbl (tb3 (List.mem_of_getElem? (i := 182) rfl)) rfl
theorem w3_192 : Cond.methodLink RX9 83 yJ0_charAt_5068e ∈ ALL := all_tbl (tb3 (List.mem_of_getElem? (i := 192) rfl)) rfl
theorem w3_178 : Cond.methodLink RX9 56 yX9_spells ∈ ALL := all_tbl (tb3 (List.mem_of_getElem? (i := 178) rfl)) rfl
theorem w3_183 : Cond.instanceMethod yJ0_length_8abf5 ∈ ALL := all_tbl (tb3 (List.mem_of_getElem? (i := 183) rfl)) rfl
theorem w3_184 : Cond.selects RJ0 yJ0_length_8abf5 yJ0_length_8abf5 ∈ ALL := all_tbl (tb3 (List.mem_of_getElem? (i := 184) rfl)) rfl
theorem w3_185 : Cond.code yJ0_length_8abf5 cJ0_length_8abf5 1 (some .int) ∈ ALL := all_tbl (tb3 (List.mem_of_getElem? (i := 185) rfl)) rfl
theorem w3_187 : Cond.instanceMethod yJ0_coder_7d493 ∈ ALL := all_tbl (tb3 (List.mem_of_getElem? (i := 187) rfl)) rfl
theorem w3_188 : Cond.selects RJ0 yJ0_coder_7d493 yJ0_coder_7d493 ∈ ALL := all_tbl (tb3 (List.mem_of_getElem? (i := 188) rfl)) rfl
theorem w3_189 : Cond.code yJ0_coder_7d493 cJ0_coder_7d493 1 (some .byte) ∈ ALL := all_tbl (tb3 (List.mem_of_getElem? (i := 189) rfl)) rfl
theorem w3_193 : Cond.instanceMethod yJ0_charAt_5068e ∈ ALL := all_tbl (tb3 (List.mem_of_getElem? (i := 193) rfl)) rfl
theorem w3_194 : Cond.selects RJ0 yJ0_charAt_5068e yJ0_charAt_5068e ∈ ALL := all_tbl (tb3 (List.mem_of_getElem? (i := 194) rfl)) rfl
theorem w3_195 : Cond.code yJ0_charAt_5068e cJ0_charAt_5068e 2 (some .char) ∈ ALL := all_tbl (tb3 (List.mem_of_getElem? (i := 195) rfl)) rfl
theorem w3_197 : Cond.instanceMethod yJ0_isLatin1_aae02 ∈ ALL := all_tbl (tb3 (List.mem_of_getElem? (i := 197) rfl)) rfl
theorem w3_198 : Cond.selects RJ0 yJ0_isLatin1_aae02 yJ0_isLatin1_aae02 ∈ ALL := all_tbl (tb3 (List.mem_of_getElem? (i := 198) rfl)) rfl
theorem w3_199 : Cond.code yJ0_isLatin1_aae02 cJ0_isLatin1_aae02 1 (some .boolean) ∈ ALL := all_tbl (tb3 (List.mem_of_getElem? (i := 199) rfl)) rfl
theorem w3_186 : Cond.methodLink RJ0 335 yJ0_coder_7d493 ∈ ALL := all_tbl (tb3 (List.mem_of_getElem? (i := 186) rfl)) rfl
theorem w3_196 : Cond.methodLink RJ0 492 yJ0_isLatin1_aae02 ∈ ALL := all_tbl (tb3 (List.mem_of_getElem? (i := 196) rfl)) rfl
theorem w3_200 : Cond.methodLink RJ0 495 yJ1_charAt_3b067 ∈ ALL := all_tbl (tb3 (List.mem_of_getElem? (i := 200) rfl)) rfl
theorem w3_203 : Cond.methodLink RJ1 9 yJ0_checkIndex_df160 ∈ ALL := all_tbl (tb3 (List.mem_of_getElem? (i := 203) rfl)) rfl
theorem w3_208 : Cond.methodLink RJ0 1059 yJ3_checkIndex_8e157 ∈ ALL := all_tbl (tb3 (List.mem_of_getElem? (i := 208) rfl)) rfl
theorem w3_190 : Cond.fieldLink RJ0 38 RJ0 "COMPACT_STRINGS" "Z" ∈ ALL := all_tbl (tb3 (List.mem_of_getElem? (i := 190) rfl)) rfl
theorem w3_206 : Cond.fieldLink RJ0 1053 RJ3 "SIOOBE_FORMATTER" "Ljava/util/function/BiFunction;" ∈ ALL := all_tbl (tb3 (List.mem_of_getElem? (i := 206) rfl)) rfl
theorem w7_214 : Cond.fieldLink RJ0 9 RJ0 "value" "[B" ∈ ALL := all_tbl (tb7 (List.mem_of_getElem? (i := 214) rfl)) rfl
theorem w7_215 : Cond.fieldLink RJ0 15 RJ0 "coder" "B" ∈ ALL := all_tbl (tb7 (List.mem_of_getElem? (i := 215) rfl)) rfl
theorem w3_201 : Cond.static yJ1_charAt_3b067 ∈ ALL := all_tbl (tb3 (List.mem_of_getElem? (i := 201) rfl)) rfl
theorem w3_202 : Cond.code yJ1_charAt_3b067 cJ1_charAt_3b067 2 (some .char) ∈ ALL := all_tbl (tb3 (List.mem_of_getElem? (i := 202) rfl)) rfl
theorem w3_204 : Cond.static yJ0_checkIndex_df160 ∈ ALL := all_tbl (tb3 (List.mem_of_getElem? (i := 204) rfl)) rfl
theorem w3_205 : Cond.code yJ0_checkIndex_df160 cJ0_checkIndex_df160 2 none ∈ ALL := all_tbl (tb3 (List.mem_of_getElem? (i := 205) rfl)) rfl
theorem w3_209 : Cond.static yJ3_checkIndex_8e157 ∈ ALL := all_tbl (tb3 (List.mem_of_getElem? (i := 209) rfl)) rfl
theorem w3_210 : Cond.code yJ3_checkIndex_8e157 cJ3_checkIndex_8e157 3 (some .int) ∈ ALL := all_tbl (tb3 (List.mem_of_getElem? (i := 210) rfl)) rfl
theorem w1_15 : Cond.initialized RJ0 ∈ ALL := all_tbl (tb1 (List.mem_of_getElem? (i := 15) rfl)) rfl
theorem w1_16 : Cond.initialized RJ1 ∈ ALL := all_tbl (tb1 (List.mem_of_getElem? (i := 16) rfl)) rfl
theorem w1_17 : Cond.initialized RJ3 ∈ ALL := all_tbl (tb1 (List.mem_of_getElem? (i := 17) rfl)) rfl
theorem w3_180 : Cond.instanceMethod yX9_spells ∈ ALL := all_tbl (tb3 (List.mem_of_getElem? (i := 180) rfl)) rfl
theorem wp_7 : Cond.selects RX9 yX9_spells yX9_spells ∈ ALL := all_in (List.mem_append_left _ (List.mem_of_getElem? (i := 7) rfl)) rfl
theorem dJ0_length_8abf5_0 : decode cJ0_length_8abf5 0 = .ok (.aload_n 0, 1) := by decide +kernel
theorem dJ0_length_8abf5_1 : decode cJ0_length_8abf5 1 = .ok (.getfield 9, 3) := by decide +kernel
theorem dJ0_length_8abf5_4 : decode cJ0_length_8abf5 4 = .ok (.arraylength, 1) := by decide +kernel
theorem dJ0_length_8abf5_5 : decode cJ0_length_8abf5 5 = .ok (.aload_n 0, 1) := by decide +kernel
theorem dJ0_length_8abf5_6 : decode cJ0_length_8abf5 6 = .ok (.invokevirtual 335, 3) := by decide +kernel
theorem dJ0_length_8abf5_9 : decode cJ0_length_8abf5 9 = .ok (.ishr, 1) := by decide +kernel
theorem dJ0_length_8abf5_10 : decode cJ0_length_8abf5 10 = .ok (.ireturn, 1) := by decide +kernel
theorem dJ0_charAt_5068e_0 : decode cJ0_charAt_5068e 0 = .ok (.aload_n 0, 1) := by decide +kernel
theorem dJ0_charAt_5068e_1 : decode cJ0_charAt_5068e 1 = .ok (.invokevirtual 492, 3) := by decide +kernel
theorem dJ0_charAt_5068e_4 : decode cJ0_charAt_5068e 4 = .ok (.ifCond .eq 12, 3) := by decide +kernel
theorem dJ0_charAt_5068e_7 : decode cJ0_charAt_5068e 7 = .ok (.aload_n 0, 1) := by decide +kernel
theorem dJ0_charAt_5068e_8 : decode cJ0_charAt_5068e 8 = .ok (.getfield 9, 3) := by decide +kernel
theorem dJ0_charAt_5068e_11 : decode cJ0_charAt_5068e 11 = .ok (.iload_n 1, 1) := by decide +kernel
theorem dJ0_charAt_5068e_12 : decode cJ0_charAt_5068e 12 = .ok (.invokestatic 495, 3) := by decide +kernel
theorem dJ0_charAt_5068e_15 : decode cJ0_charAt_5068e 15 = .ok (.ireturn, 1) := by decide +kernel
theorem dJ0_charAt_5068e_16 : decode cJ0_charAt_5068e 16 = .ok (.aload_n 0, 1) := by decide +kernel
theorem dJ0_charAt_5068e_17 : decode cJ0_charAt_5068e 17 = .ok (.getfield 9, 3) := by decide +kernel
theorem dJ0_charAt_5068e_20 : decode cJ0_charAt_5068e 20 = .ok (.iload_n 1, 1) := by decide +kernel
theorem dJ0_charAt_5068e_21 : decode cJ0_charAt_5068e 21 = .ok (.invokestatic 498, 3) := by decide +kernel
theorem dJ0_charAt_5068e_24 : decode cJ0_charAt_5068e 24 = .ok (.ireturn, 1) := by decide +kernel
theorem dJ0_coder_7d493_0 : decode cJ0_coder_7d493 0 = .ok (.getstatic 38, 3) := by decide +kernel
theorem dJ0_coder_7d493_3 : decode cJ0_coder_7d493 3 = .ok (.ifCond .eq 10, 3) := by decide +kernel
theorem dJ0_coder_7d493_6 : decode cJ0_coder_7d493 6 = .ok (.aload_n 0, 1) := by decide +kernel
theorem dJ0_coder_7d493_7 : decode cJ0_coder_7d493 7 = .ok (.getfield 15, 3) := by decide +kernel
theorem dJ0_coder_7d493_10 : decode cJ0_coder_7d493 10 = .ok (.goto 4, 3) := by decide +kernel
theorem dJ0_coder_7d493_13 : decode cJ0_coder_7d493 13 = .ok (.iconst 1, 1) := by decide +kernel
theorem dJ0_coder_7d493_14 : decode cJ0_coder_7d493 14 = .ok (.ireturn, 1) := by decide +kernel
theorem dJ0_isLatin1_aae02_0 : decode cJ0_isLatin1_aae02 0 = .ok (.getstatic 38, 3) := by decide +kernel
theorem dJ0_isLatin1_aae02_3 : decode cJ0_isLatin1_aae02 3 = .ok (.ifCond .eq 14, 3) := by decide +kernel
theorem dJ0_isLatin1_aae02_6 : decode cJ0_isLatin1_aae02 6 = .ok (.aload_n 0, 1) := by decide +kernel
theorem dJ0_isLatin1_aae02_7 : decode cJ0_isLatin1_aae02 7 = .ok (.getfield 15, 3) := by decide +kernel
theorem dJ0_isLatin1_aae02_10 : decode cJ0_isLatin1_aae02 10 = .ok (.ifCond .ne 7, 3) := by decide +kernel
theorem dJ0_isLatin1_aae02_13 : decode cJ0_isLatin1_aae02 13 = .ok (.iconst 1, 1) := by decide +kernel
theorem dJ0_isLatin1_aae02_14 : decode cJ0_isLatin1_aae02 14 = .ok (.goto 4, 3) := by decide +kernel
theorem dJ0_isLatin1_aae02_17 : decode cJ0_isLatin1_aae02 17 = .ok (.iconst 0, 1) := by decide +kernel
theorem dJ0_isLatin1_aae02_18 : decode cJ0_isLatin1_aae02 18 = .ok (.ireturn, 1) := by decide +kernel
theorem dJ0_checkIndex_df160_0 : decode cJ0_checkIndex_df160 0 = .ok (.iload_n 0, 1) := by decide +kernel
theorem dJ0_checkIndex_df160_1 : decode cJ0_checkIndex_df160 1 = .ok (.iload_n 1, 1) := by decide +kernel
theorem dJ0_checkIndex_df160_2 : decode cJ0_checkIndex_df160 2 = .ok (.getstatic 1053, 3) := by decide +kernel
theorem dJ0_checkIndex_df160_5 : decode cJ0_checkIndex_df160 5 = .ok (.invokestatic 1059, 3) := by decide +kernel
theorem dJ0_checkIndex_df160_8 : decode cJ0_checkIndex_df160 8 = .ok (.pop, 1) := by decide +kernel
theorem dJ0_checkIndex_df160_9 : decode cJ0_checkIndex_df160 9 = .ok (.return_, 1) := by decide +kernel
theorem dJ1_charAt_3b067_0 : decode cJ1_charAt_3b067 0 = .ok (.iload_n 1, 1) := by decide +kernel
theorem dJ1_charAt_3b067_1 : decode cJ1_charAt_3b067 1 = .ok (.aload_n 0, 1) := by decide +kernel
theorem dJ1_charAt_3b067_2 : decode cJ1_charAt_3b067 2 = .ok (.arraylength, 1) := by decide +kernel
theorem dJ1_charAt_3b067_3 : decode cJ1_charAt_3b067 3 = .ok (.invokestatic 9, 3) := by decide +kernel
theorem dJ1_charAt_3b067_6 : decode cJ1_charAt_3b067 6 = .ok (.aload_n 0, 1) := by decide +kernel
theorem dJ1_charAt_3b067_7 : decode cJ1_charAt_3b067 7 = .ok (.iload_n 1, 1) := by decide +kernel
theorem dJ1_charAt_3b067_8 : decode cJ1_charAt_3b067 8 = .ok (.baload, 1) := by decide +kernel
theorem dJ1_charAt_3b067_9 : decode cJ1_charAt_3b067 9 = .ok (.sipush 255, 3) := by decide +kernel
theorem dJ1_charAt_3b067_12 : decode cJ1_charAt_3b067 12 = .ok (.iand, 1) := by decide +kernel
theorem dJ1_charAt_3b067_13 : decode cJ1_charAt_3b067 13 = .ok (.i2c, 1) := by decide +kernel
theorem dJ1_charAt_3b067_14 : decode cJ1_charAt_3b067 14 = .ok (.ireturn, 1) := by decide +kernel
theorem dJ3_checkIndex_8e157_0 : decode cJ3_checkIndex_8e157 0 = .ok (.iload_n 0, 1) := by decide +kernel
theorem dJ3_checkIndex_8e157_1 : decode cJ3_checkIndex_8e157 1 = .ok (.ifCond .lt 8, 3) := by decide +kernel
theorem dJ3_checkIndex_8e157_4 : decode cJ3_checkIndex_8e157 4 = .ok (.iload_n 0, 1) := by decide +kernel
theorem dJ3_checkIndex_8e157_5 : decode cJ3_checkIndex_8e157 5 = .ok (.iload_n 1, 1) := by decide +kernel
theorem dJ3_checkIndex_8e157_6 : decode cJ3_checkIndex_8e157 6 = .ok (.if_icmp .lt 10, 3) := by decide +kernel
theorem dJ3_checkIndex_8e157_9 : decode cJ3_checkIndex_8e157 9 = .ok (.aload_n 2, 1) := by decide +kernel
theorem dJ3_checkIndex_8e157_10 : decode cJ3_checkIndex_8e157 10 = .ok (.iload_n 0, 1) := by decide +kernel
theorem dJ3_checkIndex_8e157_11 : decode cJ3_checkIndex_8e157 11 = .ok (.iload_n 1, 1) := by decide +kernel
theorem dJ3_checkIndex_8e157_12 : decode cJ3_checkIndex_8e157 12 = .ok (.invokestatic 95, 3) := by decide +kernel
theorem dJ3_checkIndex_8e157_15 : decode cJ3_checkIndex_8e157 15 = .ok (.athrow, 1) := by decide +kernel
theorem dJ3_checkIndex_8e157_16 : decode cJ3_checkIndex_8e157 16 = .ok (.iload_n 0, 1) := by decide +kernel
theorem dJ3_checkIndex_8e157_17 : decode cJ3_checkIndex_8e157 17 = .ok (.ireturn, 1) := by decide +kernel
abbrev sK (Z : ZT) (i : Nat) : Nat := Z.2.2.2.2 (10 + i)
abbrev tV (Z : ZT) (i : Nat) : Nat := Z.2.2.2.2 (20 + i)
section SROW
variable {Z : ZT} {X : XT} {mt : MT} {rc rs n k sl pc : Nat} {lv : List (Nat × Value)} {st : List Value} {M : Mem}
theorem J_getsC (E : Ent Z X mt rc rs) {i : Nat} (hd : decode mt.2.1 pc = .ok (.getstatic i, 3)) (hw : Cond.fieldLink mt.1.cls i "java/lang/String" "COMPACT_STRINGS" "Z" ∈ ALL) (kk : J Z X n k sl (pc + 3) lv (.int 1 :: st) M) : J Z X n k sl pc lv st M := by
  obtain ⟨p, e, R, s, m, args, below, meth, c, Q, nL⟩ := X
  intro H locs ls h1 h2 h3 h4
  exact va_gets E.1 E.2.1 ((E.2.2.2.2.2.2.1).2.2.2.2.1) h4 E.2.2.2.1 (E.2.2.2.2.1 _ hw) (fun _ h => h) hd (kk H locs ls h1 h2 h3 h4)
theorem J_getsQ (E : Ent Z X mt rc rs) {i : Nat} (hd : decode mt.2.1 pc = .ok (.getstatic i, 3)) (hw : Cond.fieldLink mt.1.cls i "jdk/internal/util/Preconditions" "SIOOBE_FORMATTER" "Ljava/util/function/BiFunction;" ∈ ALL) (kk : ∀ w : Value, (w = .null ∨ ∃ t, w = .ref t) → J Z X n k sl (pc + 3) lv (w :: st) M) : J Z X n k sl pc lv st M := by
  obtain ⟨p, e, R, s, m, args, below, meth, c, Q, nL⟩ := X
  intro H locs ls h1 h2 h3 h4
  rcases (E.2.2.2.2.2.2.1).2.2.2.2.2.2.2.1 with q | ⟨t, q⟩
  · exact va_gets E.1 E.2.1 q h4 E.2.2.2.1 (E.2.2.2.2.1 _ hw) (fun _ h => h) hd (kk .null (Or.inl rfl) H locs ls h1 h2 h3 h4)
  · exact va_gets E.1 E.2.1 q h4 E.2.2.2.1 (E.2.2.2.2.1 _ hw) (fun _ h => h) hd (kk (.ref t) (Or.inr ⟨t, rfl⟩) H locs ls h1 h2 h3 h4)
theorem J_ldcS (j : Nat) (hj : j < 10) (E : Ent Z X mt rc rs) {i : Nat} (hd : decode mt.2.1 pc = .ok (.ldc i, 2)) (hc : mt.1.cls = RX9) (hi : strK.getD j 0 = i) (kk : J Z X n k sl (pc + 2) lv (.ref (sK Z j) :: st) M) : J Z X n k sl pc lv st M := by
  obtain ⟨p, e, R, s, m, args, below, meth, c, Q, nL⟩ := X
  intro H locs ls h1 h2 h3 h4
  subst hi
  exact va_ldcS E.1 E.2.1 (by have h := E.2.2.2.1; rw [hc] at h; exact h) ((E.2.2.2.2.2.2.1).2.2.2.2.2.2.1 j hj) hd (kk H locs ls h1 h2 h3 h4)
theorem J_getCo (j : Nat) (hj : j < 10) (E : Ent Z X mt rc rs) {i : Nat} (hd : decode mt.2.1 pc = .ok (.getfield i, 3)) (hw : Cond.fieldLink mt.1.cls i "java/lang/String" "coder" "B" ∈ ALL) (kk : J Z X n k sl (pc + 3) lv (.int 0 :: st) M) : J Z X n k sl pc lv (.ref (sK Z j) :: st) M := by
  obtain ⟨p, e, R, s, m, args, below, meth, c, Q, nL⟩ := X
  intro H locs ls h1 h2 h3 h4
  exact vk_getf E.1 E.2.1 (((E.2.2.2.2.2.2.1).2.2.2.2.2.1).1 j hj).2.1 h4 E.2.2.2.1 (E.2.2.2.2.1 _ hw) (fun _ h => h) hd (kk H locs ls h1 h2 h3 h4)
theorem J_getVa (j : Nat) (hj : j < 10) (E : Ent Z X mt rc rs) {i : Nat} (hd : decode mt.2.1 pc = .ok (.getfield i, 3)) (hw : Cond.fieldLink mt.1.cls i "java/lang/String" "value" "[B" ∈ ALL) (kk : J Z X n k sl (pc + 3) lv (.ref (tV Z j) :: st) M) : J Z X n k sl pc lv (.ref (sK Z j) :: st) M := by
  obtain ⟨p, e, R, s, m, args, below, meth, c, Q, nL⟩ := X
  intro H locs ls h1 h2 h3 h4
  exact vk_getf E.1 E.2.1 (((E.2.2.2.2.2.2.1).2.2.2.2.2.1).1 j hj).2.2.1 h4 E.2.2.2.1 (E.2.2.2.2.1 _ hw) (fun _ h => h) hd (kk H locs ls h1 h2 h3 h4)
theorem J_alenS (j : Nat) (hj : j < 10) (E : Ent Z X mt rc rs) (hd : decode mt.2.1 pc = .ok (.arraylength, 1)) (kk : J Z X n k sl (pc + 1) lv (.int (nI (strL.getD j 0)) :: st) M) : J Z X n k sl pc lv (.ref (tV Z j) :: st) M := by
  obtain ⟨p, e, R, s, m, args, below, meth, c, Q, nL⟩ := X
  intro H locs ls h1 h2 h3 h4
  exact va_tlen E.1 E.2.1 (((E.2.2.2.2.2.2.1).2.2.2.2.2.1).1 j hj).2.2.2 h4 rfl hd (kk H locs ls h1 h2 h3 h4)
theorem J_baldS (j : Nat) (hj : j < 10) (E : Ent Z X mt rc rs) {x : Int32} (hd : decode mt.2.1 pc = .ok (.baload, 1)) (hin : vp_in x (strL.getD j 0)) (kk : J Z X n k sl (pc + 1) lv (.int ((strB.getD j []).getD (ix x) 0) :: st) M) : J Z X n k sl pc lv (.int x :: .ref (tV Z j) :: st) M := by
  obtain ⟨p, e, R, s, m, args, below, meth, c, Q, nL⟩ := X
  intro H locs ls h1 h2 h3 h4
  exact va_tb E.1 E.2.1 (((E.2.2.2.2.2.2.1).2.2.2.2.2.1).1 j hj).2.2.2 h4 hin rfl hd (kk H locs ls h1 h2 h3 h4)
theorem J_nret (E : Ent Z X mt k sl) {Post : Option Value → Mem → Prop} (hB : Bod Z X n k sl Post) {v : Int32} {ty : FieldType} (hd : decode mt.2.1 pc = .ok (.ireturn, 1)) (hr : mt.2.2.2.1 = some ty) (hz : narrow ty (.int v) = .int v) (hp : Post (some (.int v)) M) : J Z X n k sl pc lv [.int v] M := by
  obtain ⟨p, e, R, s, m, args, below, meth, c, Q, nL⟩ := X
  intro H locs ls h1 h2 h3 h4
  subst hB
  refine W_size h2 h3 h4 fun hsz => ?_
  exact W.zret E.1 E.2.1 (by rw [E.2.2.2.2.2.2.2.2.2.2.2.2.2.1]; exact hr) hz (fun t ht hW => ⟨⟨_, M, rfl, hp, by rw [ht]; exact hsz, by rw [ht]; exact h3, va_K.moved hW.alike E.2.2.2.2.2.1, by rw [ht]; exact ((E.2.2.2.2.2.2.1).kept (fun a ha hA => h4.2.1 a ha hA)).warm hW⟩, h4.F ht⟩) h4.2.2 hd E.2.2.2.2.2.2.2.2.2.2.2.2.2.2.1
theorem J_callT (j : Nat) (hj : j < 10) (E : Ent Z X mt rc rs) {na : Nat} {m2 : MT} {As rest : List Value} {P : Option Value → Mem → Prop} {i : Nat} (hd : decode mt.2.1 pc = .ok (.invokevirtual i, 3)) (hC : Ctr Z m2 (.ref (sK Z j) :: As) n n 0 M P) (ok : okM m2 na) (rm : okR mt m2) (hn : As.length = na) (hW : (rest.map fun v => v.category).sum ≤ 8) (hrc : k ≤ rc) (hrs : sl ≤ rs) (hcl : m2.1.cls = "java/lang/String") (hw : Cond.methodLink mt.1.cls i m2.1 ∈ ALL) (hi : Cond.instanceMethod m2.1 ∈ ALL) (hse : Cond.selects m2.1.cls m2.1 m2.1 ∈ ALL) (kk : ∀ (r : Option Value) (M' : Mem), P r M' → J Z X n k sl (pc + 3) lv (r.toList ++ rest) M') : J Z X n k sl pc lv (As.reverse ++ .ref (sK Z j) :: rest) M := by
  have kk' : ∀ (r : Option Value) (M' : Mem), P r M' → J Z X n (k + (n - n)) (sl + 0) (pc + 3) lv (r.toList ++ rest) M' := fun r M' hp => by rw [Nat.sub_self]; exact kk r M' hp
  clear kk
  obtain ⟨p, e, R, s, m, args, below, meth, c, Q, nL⟩ := X
  intro H locs ls h1 h2 h3 h4
  refine W_size h2 h3 h4 fun hsz => ?_
  refine J_after (va_runV ⟨E.1, E.2.1, E.2.2.1, E.2.2.2.1, E.2.2.2.2.1⟩ hC (cwV na E.2.2.2.2.1 (fun w hw' => by
      unfold wsV at hw'
      rcases List.mem_append.mp hw' with h | h
      · simp only [List.mem_cons, List.not_mem_nil, or_false] at h
        rcases h with rfl | rfl | rfl | rfl
        · exact gd hw
        · exact gd hi
        · exact gd hse
        · exact gd ok.2.1
      · exact all_GoodInC ok.1 _ h) rfl rfl rfl ⟨rfl, ok.2.2⟩ (by rw [E.2.2.2.2.2.2.2.2.1, E.2.2.2.2.2.2.2.2.2.1]; exact rm)) ⟨World_blind, (by rw [hcl]; exact vk_recv (E.2.2.2.2.2.2.1).2.2.2.2.2.1 hj h4), (fun U hU hW => ⟨rfl, by rw [hU]; exact hsz, by rw [hU]; exact h3, va_K.moved hW.alike E.2.2.2.2.2.1, by rw [hU]; exact ((E.2.2.2.2.2.2.1).kept (fun a ha hA => h4.2.1 a ha hA)).warm hW⟩)⟩ rfl hn h1.1 rfl (by show 2 * 0 + _ ≤ 8; omega) hd ⟨by rw [E.2.2.2.2.2.2.2.2.2.2.1]; omega, by rw [E.2.2.2.2.2.2.2.2.2.2.2.1]; omega⟩) h4 fun r M' H1 l1 hp p1 p3 => kk' r M' hp H1 l1 ls h1 ⟨h2.1, by omega⟩ p1 p3
end SROW
section SMET
variable {Z : ZT} {μ : Mu}
theorem S_callT {X : XT} {mt : MT} {pc i : Nat} {lv : List (Nat × Value)} (j : Nat) (hj : j < 10) (E : Ent Z X mt 0 0) {m2 : MT} {na : Nat} {As rest : List Value} {P : Option Value → Mu → Prop} (hd : decode mt.2.1 pc = .ok (.invokevirtual i, 3)) (hC : CtrS Z m2 (.ref (sK Z j) :: As) μ P) (ok : okM m2 na) (rm : okR mt m2) (hn : As.length = na) (hW : (rest.map fun v => v.category).sum ≤ 8) (hcl : m2.1.cls = "java/lang/String") (hw : Cond.methodLink mt.1.cls i m2.1 ∈ ALL) (hi : Cond.instanceMethod m2.1 ∈ ALL) (hse : Cond.selects m2.1.cls m2.1 m2.1 ∈ ALL) (kk : ∀ (r : Option Value) (μ' : Mu), P r μ' → JS Z X (pc + 3) lv (r.toList ++ rest) μ') : JS Z X pc lv (As.reverse ++ .ref (sK Z j) :: rest) μ :=
  J_callT j hj E hd hC ok rm hn hW (Nat.le_refl 0) (Nat.le_refl 0) hcl hw hi hse fun r M' ⟨μ', e, hp⟩ => by subst e; exact kk r μ' hp
theorem S_nret {X : XT} {mt : MT} {pc : Nat} {lv : List (Nat × Value)} (E : Ent Z X mt 0 0) {P : Option Value → Mu → Prop} {ty : FieldType} (hB : BodS Z X P) {v : Int32} (hd : decode mt.2.1 pc = .ok (.ireturn, 1)) (hr : mt.2.2.2.1 = some ty) (hz : narrow ty (.int v) = .int v) (hp : P (some (.int v)) μ) : JS Z X pc lv [.int v] μ := J_nret E hB hd hr hz ⟨μ, rfl, hp⟩
abbrev mJ3 : MT := (yJ3_checkIndex_8e157, cJ3_checkIndex_8e157, 3, (some .int), 1, 40)
abbrev mJ0c : MT := (yJ0_checkIndex_df160, cJ0_checkIndex_df160, 2, none, 2, 70)
abbrev mJ1 : MT := (yJ1_charAt_3b067, cJ1_charAt_3b067, 2, (some .char), 3, 100)
abbrev mJch : MT := (yJ0_charAt_5068e, cJ0_charAt_5068e, 2, (some .char), 4, 130)
abbrev mJco : MT := (yJ0_coder_7d493, cJ0_coder_7d493, 1, (some .byte), 1, 40)
abbrev mJle : MT := (yJ0_length_8abf5, cJ0_length_8abf5, 1, (some .int), 2, 70)
abbrev mJla : MT := (yJ0_isLatin1_aae02, cJ0_isLatin1_aae02, 1, (some .boolean), 1, 40)
theorem kJ3 : okM mJ3 3 := ⟨w3_210, w1_17, by decide +kernel, by decide +kernel, by decide +kernel⟩
theorem kJ0c : okM mJ0c 2 := ⟨w3_205, w1_15, by decide +kernel, by decide +kernel, by decide +kernel⟩
theorem kJ1 : okM mJ1 2 := ⟨w3_202, w1_16, by decide +kernel, by decide +kernel, by decide +kernel⟩
theorem kJch : okM mJch 1 := ⟨w3_195, w1_15, by decide +kernel, by decide +kernel, by decide +kernel⟩
theorem kJco : okM mJco 0 := ⟨w3_189, w1_15, by decide +kernel, by decide +kernel, by decide +kernel⟩
theorem kJle : okM mJle 0 := ⟨w3_185, w1_15, by decide +kernel, by decide +kernel, by decide +kernel⟩
theorem kJla : okM mJla 0 := ⟨w3_199, w1_15, by decide +kernel, by decide +kernel, by decide +kernel⟩
theorem c_ckI {a b : Nat} {w : Value} (hw : w = .null ∨ ∃ t, w = .ref t) (hab : a < b) (hb : b < 2147483648) : CtrS Z mJ3 [.int (nI a), .int (nI b), w] μ (rI fun r μ' => μ' = μ) := by
  have hb1 : ∀ (X : XT) (lv : List (Nat × Value)), lk lv 0 = some (.int (nI a)) → lk lv 1 = some (.int (nI b)) → Ent Z X mJ3 0 0 → BodS Z X (rI fun r μ' => μ' = μ) → JS Z X 0 lv [] μ := fun X lv l0 l1 E hB => by
    refine J_iload_n E dJ3_checkIndex_8e157_0 l0 ?_
    refine J_if_lt (tgt := 9) E dJ3_checkIndex_8e157_1 (by decide) (fun c => absurd c (by rw [nI_lt0 (by omega)]; exact not_false)) (fun _ => ?_)
    refine J_iload_n E dJ3_checkIndex_8e157_4 l0 ?_
    refine J_iload_n E dJ3_checkIndex_8e157_5 l1 ?_
    refine J_icmp_lt (tgt := 16) E dJ3_checkIndex_8e157_6 (by decide) (fun _ => ?_) (fun c => absurd (by rw [nI_ltE (by omega) hb]; exact hab) c)
    refine J_iload_n E dJ3_checkIndex_8e157_16 l0 ?_
    exact S_iret E hB dJ3_checkIndex_8e157_17 rfl ⟨_, rfl, rfl⟩
  rcases hw with rfl | ⟨t, rfl⟩
  · exact CtrS.intro (by decide +kernel) (Nat.le_of_ble_eq_true rfl) rfl fun X E hB => hb1 X _ rfl rfl E hB
  · exact CtrS.intro (by decide +kernel) (Nat.le_of_ble_eq_true rfl) rfl fun X E hB => hb1 X _ rfl rfl E hB
theorem c_ckV {a b : Nat} (hab : a < b) (hb : b < 2147483648) : CtrS Z mJ0c [.int (nI a), .int (nI b)] μ (rV fun μ' => μ' = μ) := by
  refine CtrS.intro (by decide +kernel) (Nat.le_of_ble_eq_true rfl) rfl fun X E hB => ?_
  refine J_iload_n E dJ0_checkIndex_df160_0 rfl ?_
  refine J_iload_n E dJ0_checkIndex_df160_1 rfl ?_
  refine J_getsQ E dJ0_checkIndex_df160_2 w3_206 fun w hw => ?_
  refine S_callS (As := [.int (nI a), .int (nI b), w]) (rest := []) E dJ0_checkIndex_df160_5 (c_ckI hw hab hb) kJ3 ⟨Nat.le_of_ble_eq_true rfl, Nat.le_of_ble_eq_true rfl⟩ rfl (Nat.le_of_ble_eq_true rfl) w3_208 w3_209 (fun r μ1 hp => ?_)
  obtain ⟨v, rfl, rfl⟩ := hp
  refine J_pop E dJ0_checkIndex_df160_8 rfl ?_
  exact S_vret E hB dJ0_checkIndex_df160_9 rfl ⟨rfl, rfl⟩
theorem s_len : ∀ j, j < 10 → strL.getD j 0 ≤ 5 := by decide +kernel
theorem s_and : ∀ j, j < 10 → ∀ i, i < strL.getD j 0 → (((strB.getD j []).getD i 0 &&& 255).toUInt32 % 65536).toInt32 = (strB.getD j []).getD i 0 := by decide +kernel
theorem s_nar : ∀ j, j < 10 → ∀ i, i < strL.getD j 0 → narrow .char (.int ((strB.getD j []).getD i 0)) = .int ((strB.getD j []).getD i 0) := by decide +kernel
theorem c_chL {j i : Nat} (hj : j < 10) (hi : i < strL.getD j 0) : CtrS Z mJ1 [.ref (tV Z j), .int (nI i)] μ (rI fun r μ' => r = (strB.getD j []).getD i 0 ∧ μ' = μ) := by
  have h5 := s_len j hj
  refine CtrS.intro (by decide +kernel) (Nat.le_of_ble_eq_true rfl) rfl fun X E hB => ?_
  refine J_iload_n E dJ1_charAt_3b067_0 rfl ?_
  refine J_aload_n E dJ1_charAt_3b067_1 rfl ?_
  refine J_alenS j hj E dJ1_charAt_3b067_2 ?_
  refine S_callS (As := [.int (nI i), .int (nI (strL.getD j 0))]) (rest := []) E dJ1_charAt_3b067_3 (c_ckV hi (by omega)) kJ0c ⟨Nat.le_of_ble_eq_true rfl, Nat.le_of_ble_eq_true rfl⟩ rfl (Nat.le_of_ble_eq_true rfl) w3_203 w3_204 (fun r μ1 hp => ?_)
  obtain ⟨rfl, rfl⟩ := hp
  refine J_aload_n E dJ1_charAt_3b067_6 rfl ?_
  refine J_iload_n E dJ1_charAt_3b067_7 rfl ?_
  refine J_baldS j hj E dJ1_charAt_3b067_8 (by rintro (c | c); rw [nI_lt0 (by omega)] at c; exact c; rw [ix_n (by omega)] at c; omega) ?_
  rw [ix_nI (by omega)]
  refine J_sipush (v := 255) E dJ1_charAt_3b067_9 (by decide +kernel) ?_
  refine J_iand E dJ1_charAt_3b067_12 ?_
  refine J_i2c E dJ1_charAt_3b067_13 ?_
  rw [s_and j hj i hi]
  exact S_nret E hB dJ1_charAt_3b067_14 rfl (s_nar j hj i hi) ⟨_, rfl, rfl, rfl⟩
theorem c_isLa {j : Nat} (hj : j < 10) : CtrS Z mJla [.ref (sK Z j)] μ (rI fun r μ' => r = 1 ∧ μ' = μ) := by
  refine CtrS.intro (by decide +kernel) (Nat.le_of_ble_eq_true rfl) rfl fun X E hB => ?_
  refine J_getsC E dJ0_isLatin1_aae02_0 w3_190 ?_
  refine J_if_eq (tgt := 17) E dJ0_isLatin1_aae02_3 (by decide) (fun c => absurd c (by decide)) (fun _ => ?_)
  refine J_aload_n E dJ0_isLatin1_aae02_6 rfl ?_
  refine J_getCo j hj E dJ0_isLatin1_aae02_7 w7_215 ?_
  refine J_if_ne (tgt := 17) E dJ0_isLatin1_aae02_10 (by decide) (fun c => absurd rfl c) (fun _ => ?_)
  refine J_iconst (v := 1) E dJ0_isLatin1_aae02_13 (by decide +kernel) ?_
  refine J_goto (tgt := 18) E dJ0_isLatin1_aae02_14 (by decide) ?_
  exact S_zret E hB dJ0_isLatin1_aae02_18 rfl rfl ⟨_, rfl, rfl, rfl⟩
theorem c_coder {j : Nat} (hj : j < 10) : CtrS Z mJco [.ref (sK Z j)] μ (rI fun r μ' => r = 0 ∧ μ' = μ) := by
  refine CtrS.intro (by decide +kernel) (Nat.le_of_ble_eq_true rfl) rfl fun X E hB => ?_
  refine J_getsC E dJ0_coder_7d493_0 w3_190 ?_
  refine J_if_eq (tgt := 13) E dJ0_coder_7d493_3 (by decide) (fun c => absurd c (by decide)) (fun _ => ?_)
  refine J_aload_n E dJ0_coder_7d493_6 rfl ?_
  refine J_getCo j hj E dJ0_coder_7d493_7 w7_215 ?_
  refine J_goto (tgt := 14) E dJ0_coder_7d493_10 (by decide) ?_
  exact S_nret E hB dJ0_coder_7d493_14 rfl rfl ⟨_, rfl, rfl, rfl⟩
theorem shr00 (x : Nat) (h : x ≤ 5) : nI x >>> ((0 : Int32) &&& 31) = nI x := by
  have d : ∀ x, x ≤ 5 → nI x >>> ((0 : Int32) &&& 31) = nI x := by decide +kernel
  exact d x h
theorem c_slen {j : Nat} (hj : j < 10) : CtrS Z mJle [.ref (sK Z j)] μ (rI fun r μ' => r = nI (strL.getD j 0) ∧ μ' = μ) := by
  refine CtrS.intro (by decide +kernel) (Nat.le_of_ble_eq_true rfl) rfl fun X E hB => ?_
  refine J_aload_n E dJ0_length_8abf5_0 rfl ?_
  refine J_getVa j hj E dJ0_length_8abf5_1 w7_214 ?_
  refine J_alenS j hj E dJ0_length_8abf5_4 ?_
  refine J_aload_n E dJ0_length_8abf5_5 rfl ?_
  refine S_callT j hj (As := []) (rest := [.int (nI (strL.getD j 0))]) E dJ0_length_8abf5_6 (c_coder hj) kJco ⟨Nat.le_of_ble_eq_true rfl, Nat.le_of_ble_eq_true rfl⟩ rfl (Nat.le_of_ble_eq_true rfl) rfl w3_186 w3_187 w3_188 (fun r μ1 hp => ?_)
  obtain ⟨v, rfl, rfl, rfl⟩ := hp
  refine J_ishr E dJ0_length_8abf5_9 ?_
  rw [shr00 _ (s_len j hj)]
  exact S_iret E hB dJ0_length_8abf5_10 rfl ⟨_, rfl, rfl, rfl⟩
theorem c_chAt {j i : Nat} (hj : j < 10) (hi : i < strL.getD j 0) : CtrS Z mJch [.ref (sK Z j), .int (nI i)] μ (rI fun r μ' => r = (strB.getD j []).getD i 0 ∧ μ' = μ) := by
  refine CtrS.intro (by decide +kernel) (Nat.le_of_ble_eq_true rfl) rfl fun X E hB => ?_
  refine J_aload_n E dJ0_charAt_5068e_0 rfl ?_
  refine S_callT j hj (As := []) (rest := []) E dJ0_charAt_5068e_1 (c_isLa hj) kJla ⟨Nat.le_of_ble_eq_true rfl, Nat.le_of_ble_eq_true rfl⟩ rfl (Nat.le_of_ble_eq_true rfl) rfl w3_196 w3_197 w3_198 (fun r μ1 hp => ?_)
  obtain ⟨v, rfl, rfl, rfl⟩ := hp
  refine J_if_eq (tgt := 16) E dJ0_charAt_5068e_4 (by decide) (fun c => absurd c (by decide)) (fun _ => ?_)
  refine J_aload_n E dJ0_charAt_5068e_7 rfl ?_
  refine J_getVa j hj E dJ0_charAt_5068e_8 w7_214 ?_
  refine J_iload_n E dJ0_charAt_5068e_11 rfl ?_
  refine S_callS (As := [.ref (tV Z j), .int (nI i)]) (rest := []) E dJ0_charAt_5068e_12 (c_chL hj hi) kJ1 ⟨Nat.le_of_ble_eq_true rfl, Nat.le_of_ble_eq_true rfl⟩ rfl (Nat.le_of_ble_eq_true rfl) w3_200 w3_201 (fun r μ1 hp => ?_)
  obtain ⟨v, rfl, rfl, rfl⟩ := hp
  exact S_nret E hB dJ0_charAt_5068e_15 rfl (s_nar j hj i hi) ⟨_, rfl, rfl, rfl⟩
/-- the bytes from a to b spell the j-th word -/
abbrev WS (f : Nat → Int32) (a b j : Nat) : Prop := b = a + strL.getD j 0 ∧ ∀ i, i < strL.getD j 0 → f (a + i) = (strB.getD j []).getD i 0
theorem spelL {X : XT} {P : Option Value → Mu → Prop} {a j : Nat} (E : Ent Z X mX9_spells 0 0) (hB : BodS Z X P) (hj : j < 10) (ha : μ 31 5 = nI a) (hb : a + strL.getD j 0 ≤ 300) (b : Int32)
    (yes : WS (μ 32) a (a + strL.getD j 0) j → P (some (.int (nI 1))) μ) (no : ¬ WS (μ 32) a (a + strL.getD j 0) j → P (some (.int (nI 0))) μ) : ∀ d i, i + d = strL.getD j 0 → (∀ q, q < i → μ 32 (a + q) = (strB.getD j []).getD q 0) → JS Z X 17 [(0, .ref (Z.2.2.1 + 31)), (1, .int b), (2, .ref (sK Z j)), (3, .int (nI i))] [] μ
  | d, i, hd, hq => by
    have h5 := s_len j hj
    refine J_iload_n E dX9_spells_17 rfl ?_
    refine J_aload_n E dX9_spells_18 rfl ?_
    refine S_callT j hj (As := []) (rest := [.int (nI i)]) E dX9_spells_19 (c_slen hj) kJle ⟨Nat.le_of_ble_eq_true rfl, Nat.le_of_ble_eq_true rfl⟩ rfl (Nat.le_of_ble_eq_true rfl) rfl w3_182 w3_183 w3_184 (fun r μ1 hp => ?_)
    obtain ⟨v, rfl, rfl, e⟩ := hp
    rw [e]
    refine J_icmp_ge (tgt := 52) E dX9_spells_22 (by decide) (fun c => ?_) (fun c => ?_)
    · rw [nI_leE (by omega) (by omega)] at c
      refine J_iconst (v := nI 1) E dX9_spells_52 (by decide +kernel) ?_
      exact S_zret E hB dX9_spells_53 rfl rfl (yes ⟨rfl, fun q hq1 => hq q (by omega)⟩)
    · rw [nI_leE (by omega) (by omega)] at c
      refine J_aload_n E dX9_spells_25 rfl ?_
      refine S_get (ci := 9) (q := 0) (v := .ref (Z.2.2.1 + 32)) E dX9_spells_26 fs_X9_9 sh31 rfl ?_
      refine J_aload_n E dX9_spells_29 rfl ?_
      refine S_get (ci := 9) (q := 5) (v := .int (μ 31 5)) E dX9_spells_30 fs_X9_30 sh31 rfl ?_
      rw [ha]
      refine J_iload_n E dX9_spells_33 rfl ?_
      refine J_iadd E dX9_spells_34 ?_
      rw [nI_add]
      refine S_iald E dX9_spells_35 sh32 (by rintro (c | c); rw [nI_lt0 (by omega)] at c; exact c; rw [ix_n (by omega)] at c; omega) ?_
      rw [ix_nI (by omega)]
      refine J_aload_n E dX9_spells_36 rfl ?_
      refine J_iload_n E dX9_spells_37 rfl ?_
      refine S_callT j hj (As := [.int (nI i)]) (rest := [.int (μ 32 (a + i))]) E dX9_spells_38 (c_chAt hj (by omega)) kJch ⟨Nat.le_of_ble_eq_true rfl, Nat.le_of_ble_eq_true rfl⟩ rfl (Nat.le_of_ble_eq_true rfl) rfl w3_192 w3_193 w3_194 (fun r μ1 hp => ?_)
      obtain ⟨v, rfl, rfl, e⟩ := hp
      rw [e]
      refine J_icmp_eq (tgt := 46) E dX9_spells_41 (by decide) (fun c2 => ?_) (fun c2 => ?_)
      · refine J_iinc (v := nI (i + 1)) (lv' := [(0, .ref (Z.2.2.1 + 31)), (1, .int b), (2, .ref (sK Z j)), (3, .int (nI (i + 1)))]) E dX9_spells_46 rfl (nI_add i 1) (Nat.le_of_ble_eq_true rfl) rfl ?_
        refine J_goto (tgt := 17) E dX9_spells_49 (by decide) ?_
        cases d with
        | zero => omega
        | succ d =>
          exact spelL E hB hj ha hb b yes no d (i + 1) (by omega) fun q hq1 => by
            rcases Nat.lt_or_ge q i with g | g
            · exact hq q g
            · obtain rfl : q = i := by omega
              exact c2
      · refine J_iconst (v := nI 0) E dX9_spells_44 (by decide +kernel) ?_
        exact S_zret E hB dX9_spells_45 rfl rfl (no fun w => c2 (w.2 i (by omega)))
theorem c_spells {a b j : Nat} (hj : j < 10) (ha : μ 31 5 = nI a) (hab : a ≤ b) (hb : b ≤ 300) : CtrS Z mX9_spells [.ref (Z.2.2.1 + 31), .int (nI b), .ref (sK Z j)] μ (rI fun r μ' => μ' = μ ∧ r = (if WS (μ 32) a b j then nI 1 else nI 0)) := by
  have h5 := s_len j hj
  refine CtrS.intro (by decide +kernel) (Nat.le_of_ble_eq_true rfl) rfl fun X E hB => ?_
  refine J_iload_n E dX9_spells_0 rfl ?_
  refine J_aload_n E dX9_spells_1 rfl ?_
  refine S_get (ci := 9) (q := 5) (v := .int (μ 31 5)) E dX9_spells_2 fs_X9_30 sh31 rfl ?_
  rw [ha]
  refine J_isub E dX9_spells_5 ?_
  rw [nI_sub hab]
  refine J_aload_n E dX9_spells_6 rfl ?_
  refine S_callT j hj (As := []) (rest := [.int (nI (b - a))]) E dX9_spells_7 (c_slen hj) kJle ⟨Nat.le_of_ble_eq_true rfl, Nat.le_of_ble_eq_true rfl⟩ rfl (Nat.le_of_ble_eq_true rfl) rfl w3_182 w3_183 w3_184 (fun r μ1 hp => ?_)
  obtain ⟨v, rfl, rfl, e⟩ := hp
  rw [e]
  refine J_icmp_eq (tgt := 15) E dX9_spells_10 (by decide) (fun c => ?_) (fun c => ?_)
  · rw [nI_eqE (by omega) (by omega)] at c
    obtain rfl : b = a + strL.getD j 0 := by omega
    refine J_iconst (v := nI 0) E dX9_spells_15 (by decide +kernel) ?_
    refine J_istore_n (lv' := [(0, .ref (Z.2.2.1 + 31)), (1, .int (nI (a + strL.getD j 0))), (2, .ref (sK Z j)), (3, .int (nI 0))]) E dX9_spells_16 (Nat.le_of_ble_eq_true rfl) rfl ?_
    exact spelL E hB hj ha hb _ (fun w => ⟨_, rfl, rfl, (if_pos w).symm⟩) (fun w => ⟨_, rfl, rfl, (if_neg w).symm⟩) _ 0 (Nat.zero_add _) fun q hq => absurd hq (Nat.not_lt_zero q)
  · rw [nI_eqE (by omega) (by omega)] at c
    refine J_iconst (v := nI 0) E dX9_spells_13 (by decide +kernel) ?_
    exact S_zret E hB dX9_spells_14 rfl rfl ⟨_, rfl, rfl, (if_neg fun w => c (by have := w.1; omega)).symm⟩
theorem kT_0 {Z : ZT} {X : XT} {μ : Mu} {P : Option Value → Mu → Prop} {a b : Nat} (E : Ent Z X mX9_kindTo 0 0) (hB : BodS Z X P) (ha : μ 31 5 = nI a) (hab : a ≤ b) (hb : b ≤ 300)
    (yes : WS (μ 32) a b 0 → P (some (.int (nI 0))) μ) (no : ¬ WS (μ 32) a b 0 → JS Z X 12 [(0, .ref (Z.2.2.1 + 31)), (1, .int (nI b))] [] μ) : JS Z X 0 [(0, .ref (Z.2.2.1 + 31)), (1, .int (nI b))] [] μ := by
  refine J_aload_n E dX9_kindTo_0 rfl ?_
  refine J_iload_n E dX9_kindTo_1 rfl ?_
  refine J_ldcS 0 (by decide) E dX9_kindTo_2 rfl rfl ?_
  refine S_callV (As := [.int (nI b), .ref (sK Z 0)]) (rest := []) E dX9_kindTo_4 (c_spells (j := 0) (by decide) ha hab hb) kX9_spells ⟨Nat.le_of_ble_eq_true rfl, Nat.le_of_ble_eq_true rfl⟩ rfl (Nat.le_of_ble_eq_true rfl) sh31 rfl rfl w3_178 w3_180 wp_7 (fun r_ μ1 hp_ => ?_)
  obtain ⟨v, rfl, rfl, e⟩ := hp_
  rw [e]
  refine J_if_eq (tgt := 12) E dX9_kindTo_7 (by decide) (fun c => ?_) (fun c => ?_)
  · rw [bz] at c
    exact no c
  · rw [bz] at c
    refine J_iconst (v := nI 0) E dX9_kindTo_10 (by decide +kernel) ?_
    exact S_iret E hB dX9_kindTo_11 rfl (yes (Classical.not_not.mp c))
theorem kT_1 {Z : ZT} {X : XT} {μ : Mu} {P : Option Value → Mu → Prop} {a b : Nat} (E : Ent Z X mX9_kindTo 0 0) (hB : BodS Z X P) (ha : μ 31 5 = nI a) (hab : a ≤ b) (hb : b ≤ 300)
    (yes : WS (μ 32) a b 1 → P (some (.int (nI 1))) μ) (no : ¬ WS (μ 32) a b 1 → JS Z X 24 [(0, .ref (Z.2.2.1 + 31)), (1, .int (nI b))] [] μ) : JS Z X 12 [(0, .ref (Z.2.2.1 + 31)), (1, .int (nI b))] [] μ := by
  refine J_aload_n E dX9_kindTo_12 rfl ?_
  refine J_iload_n E dX9_kindTo_13 rfl ?_
  refine J_ldcS 1 (by decide) E dX9_kindTo_14 rfl rfl ?_
  refine S_callV (As := [.int (nI b), .ref (sK Z 1)]) (rest := []) E dX9_kindTo_16 (c_spells (j := 1) (by decide) ha hab hb) kX9_spells ⟨Nat.le_of_ble_eq_true rfl, Nat.le_of_ble_eq_true rfl⟩ rfl (Nat.le_of_ble_eq_true rfl) sh31 rfl rfl w3_178 w3_180 wp_7 (fun r_ μ1 hp_ => ?_)
  obtain ⟨v, rfl, rfl, e⟩ := hp_
  rw [e]
  refine J_if_eq (tgt := 24) E dX9_kindTo_19 (by decide) (fun c => ?_) (fun c => ?_)
  · rw [bz] at c
    exact no c
  · rw [bz] at c
    refine J_iconst (v := nI 1) E dX9_kindTo_22 (by decide +kernel) ?_
    exact S_iret E hB dX9_kindTo_23 rfl (yes (Classical.not_not.mp c))
theorem kT_2 {Z : ZT} {X : XT} {μ : Mu} {P : Option Value → Mu → Prop} {a b : Nat} (E : Ent Z X mX9_kindTo 0 0) (hB : BodS Z X P) (ha : μ 31 5 = nI a) (hab : a ≤ b) (hb : b ≤ 300)
    (yes : WS (μ 32) a b 2 → P (some (.int (nI 2))) μ) (no : ¬ WS (μ 32) a b 2 → JS Z X 36 [(0, .ref (Z.2.2.1 + 31)), (1, .int (nI b))] [] μ) : JS Z X 24 [(0, .ref (Z.2.2.1 + 31)), (1, .int (nI b))] [] μ := by
  refine J_aload_n E dX9_kindTo_24 rfl ?_
  refine J_iload_n E dX9_kindTo_25 rfl ?_
  refine J_ldcS 2 (by decide) E dX9_kindTo_26 rfl rfl ?_
  refine S_callV (As := [.int (nI b), .ref (sK Z 2)]) (rest := []) E dX9_kindTo_28 (c_spells (j := 2) (by decide) ha hab hb) kX9_spells ⟨Nat.le_of_ble_eq_true rfl, Nat.le_of_ble_eq_true rfl⟩ rfl (Nat.le_of_ble_eq_true rfl) sh31 rfl rfl w3_178 w3_180 wp_7 (fun r_ μ1 hp_ => ?_)
  obtain ⟨v, rfl, rfl, e⟩ := hp_
  rw [e]
  refine J_if_eq (tgt := 36) E dX9_kindTo_31 (by decide) (fun c => ?_) (fun c => ?_)
  · rw [bz] at c
    exact no c
  · rw [bz] at c
    refine J_iconst (v := nI 2) E dX9_kindTo_34 (by decide +kernel) ?_
    exact S_iret E hB dX9_kindTo_35 rfl (yes (Classical.not_not.mp c))
theorem kT_3 {Z : ZT} {X : XT} {μ : Mu} {P : Option Value → Mu → Prop} {a b : Nat} (E : Ent Z X mX9_kindTo 0 0) (hB : BodS Z X P) (ha : μ 31 5 = nI a) (hab : a ≤ b) (hb : b ≤ 300)
    (yes : WS (μ 32) a b 3 → P (some (.int (nI 3))) μ) (no : ¬ WS (μ 32) a b 3 → JS Z X 48 [(0, .ref (Z.2.2.1 + 31)), (1, .int (nI b))] [] μ) : JS Z X 36 [(0, .ref (Z.2.2.1 + 31)), (1, .int (nI b))] [] μ := by
  refine J_aload_n E dX9_kindTo_36 rfl ?_
  refine J_iload_n E dX9_kindTo_37 rfl ?_
  refine J_ldcS 3 (by decide) E dX9_kindTo_38 rfl rfl ?_
  refine S_callV (As := [.int (nI b), .ref (sK Z 3)]) (rest := []) E dX9_kindTo_40 (c_spells (j := 3) (by decide) ha hab hb) kX9_spells ⟨Nat.le_of_ble_eq_true rfl, Nat.le_of_ble_eq_true rfl⟩ rfl (Nat.le_of_ble_eq_true rfl) sh31 rfl rfl w3_178 w3_180 wp_7 (fun r_ μ1 hp_ => ?_)
  obtain ⟨v, rfl, rfl, e⟩ := hp_
  rw [e]
  refine J_if_eq (tgt := 48) E dX9_kindTo_43 (by decide) (fun c => ?_) (fun c => ?_)
  · rw [bz] at c
    exact no c
  · rw [bz] at c
    refine J_iconst (v := nI 3) E dX9_kindTo_46 (by decide +kernel) ?_
    exact S_iret E hB dX9_kindTo_47 rfl (yes (Classical.not_not.mp c))
theorem kT_4 {Z : ZT} {X : XT} {μ : Mu} {P : Option Value → Mu → Prop} {a b : Nat} (E : Ent Z X mX9_kindTo 0 0) (hB : BodS Z X P) (ha : μ 31 5 = nI a) (hab : a ≤ b) (hb : b ≤ 300)
    (yes : WS (μ 32) a b 4 → P (some (.int (nI 4))) μ) (no : ¬ WS (μ 32) a b 4 → JS Z X 60 [(0, .ref (Z.2.2.1 + 31)), (1, .int (nI b))] [] μ) : JS Z X 48 [(0, .ref (Z.2.2.1 + 31)), (1, .int (nI b))] [] μ := by
  refine J_aload_n E dX9_kindTo_48 rfl ?_
  refine J_iload_n E dX9_kindTo_49 rfl ?_
  refine J_ldcS 4 (by decide) E dX9_kindTo_50 rfl rfl ?_
  refine S_callV (As := [.int (nI b), .ref (sK Z 4)]) (rest := []) E dX9_kindTo_52 (c_spells (j := 4) (by decide) ha hab hb) kX9_spells ⟨Nat.le_of_ble_eq_true rfl, Nat.le_of_ble_eq_true rfl⟩ rfl (Nat.le_of_ble_eq_true rfl) sh31 rfl rfl w3_178 w3_180 wp_7 (fun r_ μ1 hp_ => ?_)
  obtain ⟨v, rfl, rfl, e⟩ := hp_
  rw [e]
  refine J_if_eq (tgt := 60) E dX9_kindTo_55 (by decide) (fun c => ?_) (fun c => ?_)
  · rw [bz] at c
    exact no c
  · rw [bz] at c
    refine J_iconst (v := nI 4) E dX9_kindTo_58 (by decide +kernel) ?_
    exact S_iret E hB dX9_kindTo_59 rfl (yes (Classical.not_not.mp c))
theorem kT_5 {Z : ZT} {X : XT} {μ : Mu} {P : Option Value → Mu → Prop} {a b : Nat} (E : Ent Z X mX9_kindTo 0 0) (hB : BodS Z X P) (ha : μ 31 5 = nI a) (hab : a ≤ b) (hb : b ≤ 300)
    (yes : WS (μ 32) a b 5 → P (some (.int (nI 5))) μ) (no : ¬ WS (μ 32) a b 5 → JS Z X 72 [(0, .ref (Z.2.2.1 + 31)), (1, .int (nI b))] [] μ) : JS Z X 60 [(0, .ref (Z.2.2.1 + 31)), (1, .int (nI b))] [] μ := by
  refine J_aload_n E dX9_kindTo_60 rfl ?_
  refine J_iload_n E dX9_kindTo_61 rfl ?_
  refine J_ldcS 5 (by decide) E dX9_kindTo_62 rfl rfl ?_
  refine S_callV (As := [.int (nI b), .ref (sK Z 5)]) (rest := []) E dX9_kindTo_64 (c_spells (j := 5) (by decide) ha hab hb) kX9_spells ⟨Nat.le_of_ble_eq_true rfl, Nat.le_of_ble_eq_true rfl⟩ rfl (Nat.le_of_ble_eq_true rfl) sh31 rfl rfl w3_178 w3_180 wp_7 (fun r_ μ1 hp_ => ?_)
  obtain ⟨v, rfl, rfl, e⟩ := hp_
  rw [e]
  refine J_if_eq (tgt := 72) E dX9_kindTo_67 (by decide) (fun c => ?_) (fun c => ?_)
  · rw [bz] at c
    exact no c
  · rw [bz] at c
    refine J_iconst (v := nI 5) E dX9_kindTo_70 (by decide +kernel) ?_
    exact S_iret E hB dX9_kindTo_71 rfl (yes (Classical.not_not.mp c))
theorem kT_6 {Z : ZT} {X : XT} {μ : Mu} {P : Option Value → Mu → Prop} {a b : Nat} (E : Ent Z X mX9_kindTo 0 0) (hB : BodS Z X P) (ha : μ 31 5 = nI a) (hab : a ≤ b) (hb : b ≤ 300)
    (yes : WS (μ 32) a b 6 → P (some (.int (nI 6))) μ) (no : ¬ WS (μ 32) a b 6 → JS Z X 85 [(0, .ref (Z.2.2.1 + 31)), (1, .int (nI b))] [] μ) : JS Z X 72 [(0, .ref (Z.2.2.1 + 31)), (1, .int (nI b))] [] μ := by
  refine J_aload_n E dX9_kindTo_72 rfl ?_
  refine J_iload_n E dX9_kindTo_73 rfl ?_
  refine J_ldcS 6 (by decide) E dX9_kindTo_74 rfl rfl ?_
  refine S_callV (As := [.int (nI b), .ref (sK Z 6)]) (rest := []) E dX9_kindTo_76 (c_spells (j := 6) (by decide) ha hab hb) kX9_spells ⟨Nat.le_of_ble_eq_true rfl, Nat.le_of_ble_eq_true rfl⟩ rfl (Nat.le_of_ble_eq_true rfl) sh31 rfl rfl w3_178 w3_180 wp_7 (fun r_ μ1 hp_ => ?_)
  obtain ⟨v, rfl, rfl, e⟩ := hp_
  rw [e]
  refine J_if_eq (tgt := 85) E dX9_kindTo_79 (by decide) (fun c => ?_) (fun c => ?_)
  · rw [bz] at c
    exact no c
  · rw [bz] at c
    refine J_bipush (v := nI 6) E dX9_kindTo_82 (by decide +kernel) ?_
    exact S_iret E hB dX9_kindTo_84 rfl (yes (Classical.not_not.mp c))
theorem kT_7 {Z : ZT} {X : XT} {μ : Mu} {P : Option Value → Mu → Prop} {a b : Nat} (E : Ent Z X mX9_kindTo 0 0) (hB : BodS Z X P) (ha : μ 31 5 = nI a) (hab : a ≤ b) (hb : b ≤ 300)
    (yes : WS (μ 32) a b 7 → P (some (.int (nI 7))) μ) (no : ¬ WS (μ 32) a b 7 → JS Z X 98 [(0, .ref (Z.2.2.1 + 31)), (1, .int (nI b))] [] μ) : JS Z X 85 [(0, .ref (Z.2.2.1 + 31)), (1, .int (nI b))] [] μ := by
  refine J_aload_n E dX9_kindTo_85 rfl ?_
  refine J_iload_n E dX9_kindTo_86 rfl ?_
  refine J_ldcS 7 (by decide) E dX9_kindTo_87 rfl rfl ?_
  refine S_callV (As := [.int (nI b), .ref (sK Z 7)]) (rest := []) E dX9_kindTo_89 (c_spells (j := 7) (by decide) ha hab hb) kX9_spells ⟨Nat.le_of_ble_eq_true rfl, Nat.le_of_ble_eq_true rfl⟩ rfl (Nat.le_of_ble_eq_true rfl) sh31 rfl rfl w3_178 w3_180 wp_7 (fun r_ μ1 hp_ => ?_)
  obtain ⟨v, rfl, rfl, e⟩ := hp_
  rw [e]
  refine J_if_eq (tgt := 98) E dX9_kindTo_92 (by decide) (fun c => ?_) (fun c => ?_)
  · rw [bz] at c
    exact no c
  · rw [bz] at c
    refine J_bipush (v := nI 7) E dX9_kindTo_95 (by decide +kernel) ?_
    exact S_iret E hB dX9_kindTo_97 rfl (yes (Classical.not_not.mp c))
theorem kT_8 {Z : ZT} {X : XT} {μ : Mu} {P : Option Value → Mu → Prop} {a b : Nat} (E : Ent Z X mX9_kindTo 0 0) (hB : BodS Z X P) (ha : μ 31 5 = nI a) (hab : a ≤ b) (hb : b ≤ 300)
    (yes : WS (μ 32) a b 8 → P (some (.int (nI 8))) μ) (no : ¬ WS (μ 32) a b 8 → JS Z X 111 [(0, .ref (Z.2.2.1 + 31)), (1, .int (nI b))] [] μ) : JS Z X 98 [(0, .ref (Z.2.2.1 + 31)), (1, .int (nI b))] [] μ := by
  refine J_aload_n E dX9_kindTo_98 rfl ?_
  refine J_iload_n E dX9_kindTo_99 rfl ?_
  refine J_ldcS 8 (by decide) E dX9_kindTo_100 rfl rfl ?_
  refine S_callV (As := [.int (nI b), .ref (sK Z 8)]) (rest := []) E dX9_kindTo_102 (c_spells (j := 8) (by decide) ha hab hb) kX9_spells ⟨Nat.le_of_ble_eq_true rfl, Nat.le_of_ble_eq_true rfl⟩ rfl (Nat.le_of_ble_eq_true rfl) sh31 rfl rfl w3_178 w3_180 wp_7 (fun r_ μ1 hp_ => ?_)
  obtain ⟨v, rfl, rfl, e⟩ := hp_
  rw [e]
  refine J_if_eq (tgt := 111) E dX9_kindTo_105 (by decide) (fun c => ?_) (fun c => ?_)
  · rw [bz] at c
    exact no c
  · rw [bz] at c
    refine J_bipush (v := nI 8) E dX9_kindTo_108 (by decide +kernel) ?_
    exact S_iret E hB dX9_kindTo_110 rfl (yes (Classical.not_not.mp c))
theorem kT_9 {Z : ZT} {X : XT} {μ : Mu} {P : Option Value → Mu → Prop} {a b : Nat} (E : Ent Z X mX9_kindTo 0 0) (hB : BodS Z X P) (ha : μ 31 5 = nI a) (hab : a ≤ b) (hb : b ≤ 300)
    (yes : WS (μ 32) a b 9 → P (some (.int (nI 9))) μ) (no : ¬ WS (μ 32) a b 9 → JS Z X 124 [(0, .ref (Z.2.2.1 + 31)), (1, .int (nI b))] [] μ) : JS Z X 111 [(0, .ref (Z.2.2.1 + 31)), (1, .int (nI b))] [] μ := by
  refine J_aload_n E dX9_kindTo_111 rfl ?_
  refine J_iload_n E dX9_kindTo_112 rfl ?_
  refine J_ldcS 9 (by decide) E dX9_kindTo_113 rfl rfl ?_
  refine S_callV (As := [.int (nI b), .ref (sK Z 9)]) (rest := []) E dX9_kindTo_115 (c_spells (j := 9) (by decide) ha hab hb) kX9_spells ⟨Nat.le_of_ble_eq_true rfl, Nat.le_of_ble_eq_true rfl⟩ rfl (Nat.le_of_ble_eq_true rfl) sh31 rfl rfl w3_178 w3_180 wp_7 (fun r_ μ1 hp_ => ?_)
  obtain ⟨v, rfl, rfl, e⟩ := hp_
  rw [e]
  refine J_if_eq (tgt := 124) E dX9_kindTo_118 (by decide) (fun c => ?_) (fun c => ?_)
  · rw [bz] at c
    exact no c
  · rw [bz] at c
    refine J_bipush (v := nI 9) E dX9_kindTo_121 (by decide +kernel) ?_
    exact S_iret E hB dX9_kindTo_123 rfl (yes (Classical.not_not.mp c))
/-- the kind of the word from a to b; 10: none -/
def kw (f : Nat → Int32) (a b : Nat) : Nat := if WS f a b 0 then 0 else if WS f a b 1 then 1 else if WS f a b 2 then 2 else if WS f a b 3 then 3 else if WS f a b 4 then 4 else if WS f a b 5 then 5 else if WS f a b 6 then 6 else if WS f a b 7 then 7 else if WS f a b 8 then 8 else if WS f a b 9 then 9 else 10
theorem c_kindTo {a b : Nat} (ha : μ 31 5 = nI a) (hab : a ≤ b) (hb : b ≤ 300) : CtrS Z mX9_kindTo [.ref (Z.2.2.1 + 31), .int (nI b)] μ (rI fun r μ' => μ' = μ ∧ r = (if kw (μ 32) a b < 10 then nI (kw (μ 32) a b) else -1)) := by
  refine CtrS.intro (by decide +kernel) (Nat.le_of_ble_eq_true rfl) rfl fun X E hB => ?_
  have y : ∀ j, j < 10 → kw (μ 32) a b = j → (rI fun r μ' => μ' = μ ∧ r = (if kw (μ 32) a b < 10 then nI (kw (μ 32) a b) else -1)) (some (.int (nI j))) μ := fun j hj e => ⟨_, rfl, rfl, by rw [e, if_pos hj]⟩
  refine kT_0 E hB ha hab hb (fun w => y 0 (by decide) (by simp only [kw, if_pos w])) fun n0 => ?_
  refine kT_1 E hB ha hab hb (fun w => y 1 (by decide) (by simp only [kw, if_neg n0, if_pos w])) fun n1 => ?_
  refine kT_2 E hB ha hab hb (fun w => y 2 (by decide) (by simp only [kw, if_neg n0, if_neg n1, if_pos w])) fun n2 => ?_
  refine kT_3 E hB ha hab hb (fun w => y 3 (by decide) (by simp only [kw, if_neg n0, if_neg n1, if_neg n2, if_pos w])) fun n3 => ?_
  refine kT_4 E hB ha hab hb (fun w => y 4 (by decide) (by simp only [kw, if_neg n0, if_neg n1, if_neg n2, if_neg n3, if_pos w])) fun n4 => ?_
  refine kT_5 E hB ha hab hb (fun w => y 5 (by decide) (by simp only [kw, if_neg n0, if_neg n1, if_neg n2, if_neg n3, if_neg n4, if_pos w])) fun n5 => ?_
  refine kT_6 E hB ha hab hb (fun w => y 6 (by decide) (by simp only [kw, if_neg n0, if_neg n1, if_neg n2, if_neg n3, if_neg n4, if_neg n5, if_pos w])) fun n6 => ?_
  refine kT_7 E hB ha hab hb (fun w => y 7 (by decide) (by simp only [kw, if_neg n0, if_neg n1, if_neg n2, if_neg n3, if_neg n4, if_neg n5, if_neg n6, if_pos w])) fun n7 => ?_
  refine kT_8 E hB ha hab hb (fun w => y 8 (by decide) (by simp only [kw, if_neg n0, if_neg n1, if_neg n2, if_neg n3, if_neg n4, if_neg n5, if_neg n6, if_neg n7, if_pos w])) fun n8 => ?_
  refine kT_9 E hB ha hab hb (fun w => y 9 (by decide) (by simp only [kw, if_neg n0, if_neg n1, if_neg n2, if_neg n3, if_neg n4, if_neg n5, if_neg n6, if_neg n7, if_neg n8, if_pos w])) fun n9 => ?_
  refine J_iconst (v := -1) E dX9_kindTo_124 (by decide +kernel) ?_
  exact S_iret E hB dX9_kindTo_125 rfl ⟨_, rfl, rfl, by have e : kw (μ 32) a b = 10 := by simp only [kw, if_neg n0, if_neg n1, if_neg n2, if_neg n3, if_neg n4, if_neg n5, if_neg n6, if_neg n7, if_neg n8, if_neg n9]
                                                        rw [e, if_neg (by decide)]⟩
end SMET
