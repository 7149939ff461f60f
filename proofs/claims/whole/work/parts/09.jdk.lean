theorem dJ0_coder_7d493_0 : decode cJ0_coder_7d493 0 = .ok (.getstatic 38, 3) := by decide +kernel
theorem dJ0_coder_7d493_3 : decode cJ0_coder_7d493 3 = .ok (.ifCond .eq 10, 3) := by decide +kernel
theorem dJ0_coder_7d493_6 : decode cJ0_coder_7d493 6 = .ok (.aload_n 0, 1) := by decide +kernel
theorem dJ0_coder_7d493_7 : decode cJ0_coder_7d493 7 = .ok (.getfield 15, 3) := by decide +kernel
theorem dJ0_coder_7d493_10 : decode cJ0_coder_7d493 10 = .ok (.goto 4, 3) := by decide +kernel
theorem dJ0_coder_7d493_13 : decode cJ0_coder_7d493 13 = .ok (.iconst 1, 1) := by decide +kernel
theorem dJ0_coder_7d493_14 : decode cJ0_coder_7d493 14 = .ok (.ireturn, 1) := by decide +kernel
theorem dJ0_isLatin1_aae02_0 : decode cJ0_isLatin1_aae02 0 = .ok (.getstatic 38, 3) := by decide +kernel
theorem dJ0_isLatin1_aae02_3 : decode cJ0_isLatin1_aae02 3 = .ok (.ifCond .eq 14, 3) := by decide +kernel
theorem dJ0_isLatin1_aae02_6 : decode cJ0_isLatin1_aae02 6 = .ok (.aload_n 0, 1) := by decide +kernel
theorem dJ0_isLatin1_aae02_7 : decode cJ0_isLatin1_aae02 7 = .ok (.getfield 15, 3) := by decide +kernel
theorem dJ0_isLatin1_aae02_10 : decode cJ0_isLatin1_aae02 10 = .ok (.ifCond .ne 7, 3) := by decide +kernel
theorem dJ0_isLatin1_aae02_13 : decode cJ0_isLatin1_aae02 13 = .ok (.iconst 1, 1) := by decide +kernel
theorem dJ0_isLatin1_aae02_14 : decode cJ0_isLatin1_aae02 14 = .ok (.goto 4, 3) := by decide +kernel
theorem dJ0_isLatin1_aae02_17 : decode cJ0_isLatin1_aae02 17 = .ok (.iconst 0, 1) := by decide +kernel
theorem dJ0_isLatin1_aae02_18 : decode cJ0_isLatin1_aae02 18 = .ok (.ireturn, 1) := by decide +kernel
theorem dJ0_length_8abf5_0 : decode cJ0_length_8abf5 0 = .ok (.aload_n 0, 1) := by decide +kernel
theorem dJ0_length_8abf5_1 : decode cJ0_length_8abf5 1 = .ok (.getfield 9, 3) := by decide +kernel
theorem dJ0_length_8abf5_4 : decode cJ0_length_8abf5 4 = .ok (.arraylength, 1) := by decide +kernel
theorem dJ0_length_8abf5_5 : decode cJ0_length_8abf5 5 = .ok (.aload_n 0, 1) := by decide +kernel
theorem dJ0_length_8abf5_6 : decode cJ0_length_8abf5 6 = .ok (.invokevirtual 335, 3) := by decide +kernel
theorem dJ0_length_8abf5_9 : decode cJ0_length_8abf5 9 = .ok (.ishr, 1) := by decide +kernel
theorem dJ0_length_8abf5_10 : decode cJ0_length_8abf5 10 = .ok (.ireturn, 1) := by decide +kernel
theorem dJ3_checkIndex_8e157_0 : decode cJ3_checkIndex_8e157 0 = .ok (.iload_n 0, 1) := by decide +kernel
theorem dJ3_checkIndex_8e157_1 : decode cJ3_checkIndex_8e157 1 = .ok (.ifCond .lt 8, 3) := by decide +kernel
theorem dJ3_checkIndex_8e157_4 : decode cJ3_checkIndex_8e157 4 = .ok (.iload_n 0, 1) := by decide +kernel
theorem dJ3_checkIndex_8e157_5 : decode cJ3_checkIndex_8e157 5 = .ok (.iload_n 1, 1) := by decide +kernel
theorem dJ3_checkIndex_8e157_6 : decode cJ3_checkIndex_8e157 6 = .ok (.if_icmp .lt 10, 3) := by decide +kernel
theorem dJ3_checkIndex_8e157_9 : decode cJ3_checkIndex_8e157 9 = .ok (.aload_n 2, 1) := by decide +kernel
theorem dJ3_checkIndex_8e157_10 : decode cJ3_checkIndex_8e157 10 = .ok (.iload_n 0, 1) := by decide +kernel
theorem dJ3_checkIndex_8e157_11 : decode cJ3_checkIndex_8e157 11 = .ok (.iload_n 1, 1) := by decide +kernel
theorem dJ3_checkIndex_8e157_12 : decode cJ3_checkIndex_8e157 12 = .ok (.invokestatic 95, 3) := by decide +kernel
theorem dJ3_checkIndex_8e157_15 : decode cJ3_checkIndex_8e157 15 = .ok (.athrow, 1) := by decide +kernel
theorem dJ3_checkIndex_8e157_16 : decode cJ3_checkIndex_8e157 16 = .ok (.iload_n 0, 1) := by decide +kernel
theorem dJ3_checkIndex_8e157_17 : decode cJ3_checkIndex_8e157 17 = .ok (.ireturn, 1) := by decide +kernel
theorem dJ0_checkIndex_df160_0 : decode cJ0_checkIndex_df160 0 = .ok (.iload_n 0, 1) := by decide +kernel
theorem dJ0_checkIndex_df160_1 : decode cJ0_checkIndex_df160 1 = .ok (.iload_n 1, 1) := by decide +kernel
theorem dJ0_checkIndex_df160_2 : decode cJ0_checkIndex_df160 2 = .ok (.getstatic 1053, 3) := by decide +kernel
theorem dJ0_checkIndex_df160_5 : decode cJ0_checkIndex_df160 5 = .ok (.invokestatic 1059, 3) := by decide +kernel
theorem dJ0_checkIndex_df160_8 : decode cJ0_checkIndex_df160 8 = .ok (.pop, 1) := by decide +kernel
theorem dJ0_checkIndex_df160_9 : decode cJ0_checkIndex_df160 9 = .ok (.return_, 1) := by decide +kernel
theorem dJ1_charAt_3b067_0 : decode cJ1_charAt_3b067 0 = .ok (.iload_n 1, 1) := by decide +kernel
theorem dJ1_charAt_3b067_1 : decode cJ1_charAt_3b067 1 = .ok (.aload_n 0, 1) := by decide +kernel
theorem dJ1_charAt_3b067_2 : decode cJ1_charAt_3b067 2 = .ok (.arraylength, 1) := by decide +kernel
theorem dJ1_charAt_3b067_3 : decode cJ1_charAt_3b067 3 = .ok (.invokestatic 9, 3) := by decide +kernel
theorem dJ1_charAt_3b067_6 : decode cJ1_charAt_3b067 6 = .ok (.aload_n 0, 1) := by decide +kernel
theorem dJ1_charAt_3b067_7 : decode cJ1_charAt_3b067 7 = .ok (.iload_n 1, 1) := by decide +kernel
theorem dJ1_charAt_3b067_8 : decode cJ1_charAt_3b067 8 = .ok (.baload, 1) := by decide +kernel
theorem dJ1_charAt_3b067_9 : decode cJ1_charAt_3b067 9 = .ok (.sipush 255, 3) := by decide +kernel
theorem dJ1_charAt_3b067_12 : decode cJ1_charAt_3b067 12 = .ok (.iand, 1) := by decide +kernel
theorem dJ1_charAt_3b067_13 : decode cJ1_charAt_3b067 13 = .ok (.i2c, 1) := by decide +kernel
theorem dJ1_charAt_3b067_14 : decode cJ1_charAt_3b067 14 = .ok (.ireturn, 1) := by decide +kernel
theorem dJ0_charAt_5068e_0 : decode cJ0_charAt_5068e 0 = .ok (.aload_n 0, 1) := by decide +kernel
theorem dJ0_charAt_5068e_1 : decode cJ0_charAt_5068e 1 = .ok (.invokevirtual 492, 3) := by decide +kernel
theorem dJ0_charAt_5068e_4 : decode cJ0_charAt_5068e 4 = .ok (.ifCond .eq 12, 3) := by decide +kernel
theorem dJ0_charAt_5068e_7 : decode cJ0_charAt_5068e 7 = .ok (.aload_n 0, 1) := by decide +kernel
theorem dJ0_charAt_5068e_8 : decode cJ0_charAt_5068e 8 = .ok (.getfield 9, 3) := by decide +kernel
theorem dJ0_charAt_5068e_11 : decode cJ0_charAt_5068e 11 = .ok (.iload_n 1, 1) := by decide +kernel
theorem dJ0_charAt_5068e_12 : decode cJ0_charAt_5068e 12 = .ok (.invokestatic 495, 3) := by decide +kernel
theorem dJ0_charAt_5068e_15 : decode cJ0_charAt_5068e 15 = .ok (.ireturn, 1) := by decide +kernel
theorem dJ0_charAt_5068e_16 : decode cJ0_charAt_5068e 16 = .ok (.aload_n 0, 1) := by decide +kernel
theorem dJ0_charAt_5068e_17 : decode cJ0_charAt_5068e 17 = .ok (.getfield 9, 3) := by decide +kernel
theorem dJ0_charAt_5068e_20 : decode cJ0_charAt_5068e 20 = .ok (.iload_n 1, 1) := by decide +kernel
theorem dJ0_charAt_5068e_21 : decode cJ0_charAt_5068e 21 = .ok (.invokestatic 498, 3) := by decide +kernel
theorem dJ0_charAt_5068e_24 : decode cJ0_charAt_5068e 24 = .ok (.ireturn, 1) := by decide +kernel
theorem dJ6_bitCount_0f7a4_0 : decode cJ6_bitCount_0f7a4 0 = .ok (.iload_n 0, 1) := by decide +kernel
theorem dJ6_bitCount_0f7a4_1 : decode cJ6_bitCount_0f7a4 1 = .ok (.iload_n 0, 1) := by decide +kernel
theorem dJ6_bitCount_0f7a4_2 : decode cJ6_bitCount_0f7a4 2 = .ok (.iconst 1, 1) := by decide +kernel
theorem dJ6_bitCount_0f7a4_3 : decode cJ6_bitCount_0f7a4 3 = .ok (.iushr, 1) := by decide +kernel
theorem dJ6_bitCount_0f7a4_4 : decode cJ6_bitCount_0f7a4 4 = .ok (.ldc_w 265, 3) := by decide +kernel
theorem dJ6_bitCount_0f7a4_7 : decode cJ6_bitCount_0f7a4 7 = .ok (.iand, 1) := by decide +kernel
theorem dJ6_bitCount_0f7a4_8 : decode cJ6_bitCount_0f7a4 8 = .ok (.isub, 1) := by decide +kernel
theorem dJ6_bitCount_0f7a4_9 : decode cJ6_bitCount_0f7a4 9 = .ok (.istore_n 0, 1) := by decide +kernel
theorem dJ6_bitCount_0f7a4_10 : decode cJ6_bitCount_0f7a4 10 = .ok (.iload_n 0, 1) := by decide +kernel
theorem dJ6_bitCount_0f7a4_11 : decode cJ6_bitCount_0f7a4 11 = .ok (.ldc_w 266, 3) := by decide +kernel
theorem dJ6_bitCount_0f7a4_14 : decode cJ6_bitCount_0f7a4 14 = .ok (.iand, 1) := by decide +kernel
theorem dJ6_bitCount_0f7a4_15 : decode cJ6_bitCount_0f7a4 15 = .ok (.iload_n 0, 1) := by decide +kernel
theorem dJ6_bitCount_0f7a4_16 : decode cJ6_bitCount_0f7a4 16 = .ok (.iconst 2, 1) := by decide +kernel
theorem dJ6_bitCount_0f7a4_17 : decode cJ6_bitCount_0f7a4 17 = .ok (.iushr, 1) := by decide +kernel
theorem dJ6_bitCount_0f7a4_18 : decode cJ6_bitCount_0f7a4 18 = .ok (.ldc_w 266, 3) := by decide +kernel
theorem dJ6_bitCount_0f7a4_21 : decode cJ6_bitCount_0f7a4 21 = .ok (.iand, 1) := by decide +kernel
theorem dJ6_bitCount_0f7a4_22 : decode cJ6_bitCount_0f7a4 22 = .ok (.iadd, 1) := by decide +kernel
theorem dJ6_bitCount_0f7a4_23 : decode cJ6_bitCount_0f7a4 23 = .ok (.istore_n 0, 1) := by decide +kernel
theorem dJ6_bitCount_0f7a4_24 : decode cJ6_bitCount_0f7a4 24 = .ok (.iload_n 0, 1) := by decide +kernel
theorem dJ6_bitCount_0f7a4_25 : decode cJ6_bitCount_0f7a4 25 = .ok (.iload_n 0, 1) := by decide +kernel
theorem dJ6_bitCount_0f7a4_26 : decode cJ6_bitCount_0f7a4 26 = .ok (.iconst 4, 1) := by decide +kernel
theorem dJ6_bitCount_0f7a4_27 : decode cJ6_bitCount_0f7a4 27 = .ok (.iushr, 1) := by decide +kernel
theorem dJ6_bitCount_0f7a4_28 : decode cJ6_bitCount_0f7a4 28 = .ok (.iadd, 1) := by decide +kernel
theorem dJ6_bitCount_0f7a4_29 : decode cJ6_bitCount_0f7a4 29 = .ok (.ldc_w 267, 3) := by decide +kernel
theorem dJ6_bitCount_0f7a4_32 : decode cJ6_bitCount_0f7a4 32 = .ok (.iand, 1) := by decide +kernel
theorem dJ6_bitCount_0f7a4_33 : decode cJ6_bitCount_0f7a4 33 = .ok (.istore_n 0, 1) := by decide +kernel
theorem dJ6_bitCount_0f7a4_34 : decode cJ6_bitCount_0f7a4 34 = .ok (.iload_n 0, 1) := by decide +kernel
theorem dJ6_bitCount_0f7a4_35 : decode cJ6_bitCount_0f7a4 35 = .ok (.iload_n 0, 1) := by decide +kernel
theorem dJ6_bitCount_0f7a4_36 : decode cJ6_bitCount_0f7a4 36 = .ok (.bipush 8, 2) := by decide +kernel
theorem dJ6_bitCount_0f7a4_38 : decode cJ6_bitCount_0f7a4 38 = .ok (.iushr, 1) := by decide +kernel
theorem dJ6_bitCount_0f7a4_39 : decode cJ6_bitCount_0f7a4 39 = .ok (.iadd, 1) := by decide +kernel
theorem dJ6_bitCount_0f7a4_40 : decode cJ6_bitCount_0f7a4 40 = .ok (.istore_n 0, 1) := by decide +kernel
theorem dJ6_bitCount_0f7a4_41 : decode cJ6_bitCount_0f7a4 41 = .ok (.iload_n 0, 1) := by decide +kernel
theorem dJ6_bitCount_0f7a4_42 : decode cJ6_bitCount_0f7a4 42 = .ok (.iload_n 0, 1) := by decide +kernel
theorem dJ6_bitCount_0f7a4_43 : decode cJ6_bitCount_0f7a4 43 = .ok (.bipush 16, 2) := by decide +kernel
theorem dJ6_bitCount_0f7a4_45 : decode cJ6_bitCount_0f7a4 45 = .ok (.iushr, 1) := by decide +kernel
theorem dJ6_bitCount_0f7a4_46 : decode cJ6_bitCount_0f7a4 46 = .ok (.iadd, 1) := by decide +kernel
theorem dJ6_bitCount_0f7a4_47 : decode cJ6_bitCount_0f7a4 47 = .ok (.istore_n 0, 1) := by decide +kernel
theorem dJ6_bitCount_0f7a4_48 : decode cJ6_bitCount_0f7a4 48 = .ok (.iload_n 0, 1) := by decide +kernel
theorem dJ6_bitCount_0f7a4_49 : decode cJ6_bitCount_0f7a4 49 = .ok (.bipush 63, 2) := by decide +kernel
theorem dJ6_bitCount_0f7a4_51 : decode cJ6_bitCount_0f7a4 51 = .ok (.iand, 1) := by decide +kernel
theorem dJ6_bitCount_0f7a4_52 : decode cJ6_bitCount_0f7a4 52 = .ok (.ireturn, 1) := by decide +kernel
theorem dJxf58ca_isNaN_12338_0 : decode cJxf58ca_isNaN_12338 0 = .ok (.fload_n 0, 1) := by decide +kernel
theorem dJxf58ca_isNaN_12338_1 : decode cJxf58ca_isNaN_12338 1 = .ok (.fload_n 0, 1) := by decide +kernel
theorem dJxf58ca_isNaN_12338_2 : decode cJxf58ca_isNaN_12338 2 = .ok (.fcmp .l, 1) := by decide +kernel
theorem dJxf58ca_isNaN_12338_3 : decode cJxf58ca_isNaN_12338 3 = .ok (.ifCond .eq 7, 3) := by decide +kernel
theorem dJxf58ca_isNaN_12338_6 : decode cJxf58ca_isNaN_12338 6 = .ok (.iconst 1, 1) := by decide +kernel
theorem dJxf58ca_isNaN_12338_7 : decode cJxf58ca_isNaN_12338 7 = .ok (.goto 4, 3) := by decide +kernel
theorem dJxf58ca_isNaN_12338_10 : decode cJxf58ca_isNaN_12338 10 = .ok (.iconst 0, 1) := by decide +kernel
theorem dJxf58ca_isNaN_12338_11 : decode cJxf58ca_isNaN_12338 11 = .ok (.ireturn, 1) := by decide +kernel
theorem dJxf58ca_floatToIntBits_5c35a_0 : decode cJxf58ca_floatToIntBits_5c35a 0 = .ok (.fload_n 0, 1) := by decide +kernel
theorem dJxf58ca_floatToIntBits_5c35a_1 : decode cJxf58ca_floatToIntBits_5c35a 1 = .ok (.invokestatic 59, 3) := by decide +kernel
theorem dJxf58ca_floatToIntBits_5c35a_4 : decode cJxf58ca_floatToIntBits_5c35a 4 = .ok (.ifCond .ne 8, 3) := by decide +kernel
theorem dJxf58ca_floatToIntBits_5c35a_7 : decode cJxf58ca_floatToIntBits_5c35a 7 = .ok (.fload_n 0, 1) := by decide +kernel
theorem dJxf58ca_floatToIntBits_5c35a_8 : decode cJxf58ca_floatToIntBits_5c35a 8 = .ok (.invokestatic 74, 3) := by decide +kernel
theorem dJxf58ca_floatToIntBits_5c35a_11 : decode cJxf58ca_floatToIntBits_5c35a 11 = .ok (.ireturn, 1) := by decide +kernel
theorem dJxf58ca_floatToIntBits_5c35a_12 : decode cJxf58ca_floatToIntBits_5c35a 12 = .ok (.ldc 77, 2) := by decide +kernel
theorem dJxf58ca_floatToIntBits_5c35a_14 : decode cJxf58ca_floatToIntBits_5c35a 14 = .ok (.ireturn, 1) := by decide +kernel
section XJ
variable {V : x_J} {cc : ByteArray} {nL : Nat} {own : String} {ret : Option FieldType} {ad : Nat → Nat} {ds : List x_D} {dp : Nat} {P : x_P} {σ : x_S} {τ : x_L} {pc : Nat} {lv lv' : List (Nat × Value)} {st rest : List Value} {i : Nat}
theorem x_strF (X : x_Is V cc nL own ret ad ds dp P) (hi : i < 9) {index : Nat} (hd : decode cc pc = .ok (.getfield index, 3)) (hl : Cond.fieldLink own index "java/lang/String" "value" "[B" ∈ lw_big) (k9 : V σ τ (pc + 3) lv (.ref (ad (2000 + i)) :: rest)) : V σ τ pc lv (.ref (ad (1000 + i)) :: rest) := by
  obtain ⟨p, l, e, R, s, m, args, below, meth, c, w0, D, ca, A, cells, slots, Q, rfl, S, ⟨hK, hN, hST⟩, -⟩ := X
  exact fun H locs ls h1 h2 h3 h4 => vk_getf S.1 S.2.1 (hST.1.1 i hi).2.2.1 h3 S.2.2.2.1 (S.2.2.2.2 _ (List.mem_cons_of_mem _ hl)) (fun _ h => h) hd (k9 H locs ls h1 h2 h3 h4)
theorem x_strC (X : x_Is V cc nL own ret ad ds dp P) (hi : i < 9) {index : Nat} (hd : decode cc pc = .ok (.getfield index, 3)) (hl : Cond.fieldLink own index "java/lang/String" "coder" "B" ∈ lw_big) (k9 : V σ τ (pc + 3) lv (.int 0 :: rest)) : V σ τ pc lv (.ref (ad (1000 + i)) :: rest) := by
  obtain ⟨p, l, e, R, s, m, args, below, meth, c, w0, D, ca, A, cells, slots, Q, rfl, S, ⟨hK, hN, hST⟩, -⟩ := X
  exact fun H locs ls h1 h2 h3 h4 => vk_getf S.1 S.2.1 (hST.1.1 i hi).2.1 h3 S.2.2.2.1 (S.2.2.2.2 _ (List.mem_cons_of_mem _ hl)) (fun _ h => h) hd (k9 H locs ls h1 h2 h3 h4)
theorem x_strL (X : x_Is V cc nL own ret ad ds dp P) (hi : i < 9) (hd : decode cc pc = .ok (.arraylength, 1)) (k9 : V σ τ (pc + 1) lv (.int (nI (x_len.getD i 0)) :: rest)) : V σ τ pc lv (.ref (ad (2000 + i)) :: rest) := by
  obtain ⟨p, l, e, R, s, m, args, below, meth, c, w0, D, ca, A, cells, slots, Q, rfl, S, ⟨hK, hN, hST⟩, -⟩ := X
  exact fun H locs ls h1 h2 h3 h4 => va_tlen S.1 S.2.1 (hST.1.1 i hi).2.2.2 h3 rfl hd (k9 H locs ls h1 h2 h3 h4)
theorem x_strB (X : x_Is V cc nL own ret ad ds dp P) (hi : i < 9) {a : Int32} (hd : decode cc pc = .ok (.baload, 1)) (ha : vp_in a (x_len.getD i 0)) (k9 : V σ τ (pc + 1) lv (.int ((x_byt.getD i []).getD a.toNatClampNeg 0) :: rest)) : V σ τ pc lv (.int a :: .ref (ad (2000 + i)) :: rest) := by
  obtain ⟨p, l, e, R, s, m, args, below, meth, c, w0, D, ca, A, cells, slots, Q, rfl, S, ⟨hK, hN, hST⟩, -⟩ := X
  exact fun H locs ls h1 h2 h3 h4 => va_tb S.1 S.2.1 (hST.1.1 i hi).2.2.2 h3 ha rfl hd (k9 H locs ls h1 h2 h3 h4)
theorem x_cmp (X : x_Is V cc nL own ret ad ds dp P) {index : Nat} (hd : decode cc pc = .ok (.getstatic index, 3)) (hl : Cond.fieldLink own index "java/lang/String" "COMPACT_STRINGS" "Z" ∈ lw_big) (k9 : V σ τ (pc + 3) lv (.int 1 :: rest)) : V σ τ pc lv rest := by
  obtain ⟨p, l, e, R, s, m, args, below, meth, c, w0, D, ca, A, cells, slots, Q, rfl, S, ⟨hK, hN, hST⟩, -⟩ := X
  exact fun H locs ls h1 h2 h3 h4 => va_gets S.1 S.2.1 hST.2.2.2.1 h3 S.2.2.2.1 (S.2.2.2.2 _ (List.mem_cons_of_mem _ hl)) (fun _ h => h) hd (k9 H locs ls h1 h2 h3 h4)
theorem x_sio (X : x_Is V cc nL own ret ad ds dp P) {index : Nat} (hd : decode cc pc = .ok (.getstatic index, 3)) (hl : Cond.fieldLink own index "jdk/internal/util/Preconditions" "SIOOBE_FORMATTER" "Ljava/util/function/BiFunction;" ∈ lw_big) (k9 : ∀ v, (v = .null ∨ ∃ t, v = .ref t) → V σ τ (pc + 3) lv (v :: rest)) : V σ τ pc lv rest := by
  obtain ⟨p, l, e, R, s, m, args, below, meth, c, w0, D, ca, A, cells, slots, Q, rfl, S, ⟨hK, hN, hST⟩, -⟩ := X
  intro H locs ls h1 h2 h3 h4
  rcases hST.2.2.2.2 with h | ⟨t, h⟩
  · exact va_gets S.1 S.2.1 h h3 S.2.2.2.1 (S.2.2.2.2 _ (List.mem_cons_of_mem _ hl)) (fun _ h => h) hd (k9 _ (Or.inl rfl) H locs ls h1 h2 h3 h4)
  · exact va_gets S.1 S.2.1 h h3 S.2.2.2.1 (S.2.2.2.2 _ (List.mem_cons_of_mem _ hl)) (fun _ h => h) hd (k9 _ (Or.inr ⟨t, rfl⟩) H locs ls h1 h2 h3 h4)
theorem x_i2c (X : x_Is V cc nL own ret ad ds dp P) {x v : Int32} (hd : decode cc pc = .ok (.i2c, 1)) (hv : x.toUInt32.toUInt16.toUInt32.toInt32 = v) (k9 : V σ τ (pc + 1) lv (.int v :: rest)) : V σ τ pc lv (.int x :: rest) := by
  obtain ⟨p, l, e, R, s, m, args, below, meth, c, w0, D, ca, A, cells, slots, Q, rfl, S, -⟩ := X
  exact fun H locs ls h1 h2 h3 h4 => lv_i2c S.1 S.2.1 hd hv (k9 H locs ls h1 h2 h3 h4)
theorem x_iushr (X : x_Is V cc nL own ret ad ds dp P) {x y : Int32} (hd : decode cc pc = .ok (.iushr, 1)) (k9 : V σ τ (pc + 1) lv (.int (x.toUInt32 >>> (y.toUInt32 &&& Int32.toUInt32 31)).toInt32 :: rest)) : V σ τ pc lv (.int y :: .int x :: rest) := by
  obtain ⟨p, l, e, R, s, m, args, below, meth, c, w0, D, ca, A, cells, slots, Q, rfl, S, -⟩ := X
  exact fun H locs ls h1 h2 h3 h4 => lv_iushr S.1 S.2.1 hd rfl (k9 H locs ls h1 h2 h3 h4)
theorem x_ldcw (X : x_Is V cc nL own ret ad ds dp P) {index : Nat} {v : Int32} (hd : decode cc pc = .ok (.ldc_w index, 3)) (hw : Cond.constant own index v ∈ lw_big) (k9 : V σ τ (pc + 3) lv (.int v :: rest)) : V σ τ pc lv rest := by
  obtain ⟨p, l, e, R, s, m, args, below, meth, c, w0, D, ca, A, cells, slots, Q, rfl, S, -⟩ := X
  exact fun H locs ls h1 h2 h3 h4 => lv_ldcw S.1 S.2.1 S.2.2.2.1 (S.2.2.2.2 _ (List.mem_cons_of_mem _ hw)) hd (k9 H locs ls h1 h2 h3 h4)
theorem x_nret (X : x_Is V cc nL own ret ad ds dp P) {ty : FieldType} (hr0 : ret = some ty) {v : Int32} (hd : decode cc pc = .ok (.ireturn, 1)) (hn : narrow ty (.int v) = .int v) (h : P (some (.int v)) σ τ) : V σ τ pc lv [.int v] := by
  obtain ⟨p, l, e, R, s, m, args, below, meth, c, w0, D, ca, A, cells, slots, Q, rfl, S, hK, hr, hlk, hf1, hf2, hf3, hf4, hA, hA2, hQ⟩ := X
  intro H locs ls h1 h2 h3 h4
  exact hQ H locs _ (W.zret S.1 S.2.1 (hr.trans hr0) hn (fun t ht _ => ⟨⟨_, σ, τ, rfl, h, by rw [ht]; exact h1⟩, ⟨by rw [ht]; exact h3.1, fun q a b => by rw [ht]; exact h3.2.1 q a (fun z => b (hA2 q z))⟩⟩) h3.2.2 hd hlk)
/-- a call of a constant text's method -/
theorem x_callT (X : x_Is V cc nL own ret ad ds dp P) (hi9 : i < 9) {index : Nat} {y : MethodName} {bytes : ByteArray} {maxL : Nat} {ret' : Option FieldType} {dp' : Nat} {As : List Value} {P' : x_P} (rest : List Value)
    (hd : decode cc pc = .ok (.invokevirtual index, 3)) (hM : x_Met y bytes maxL ret' dp' ad ds (.ref (ad (1000 + i)) :: As) σ τ P') (hc : x_CM y bytes maxL ret' As.length) (hi : Cond.instanceMethod y ∈ lw_big ∧ Cond.selects y.cls y y ∈ lw_big ∧ y.cls = "java/lang/String") (hl : Cond.methodLink own index y ∈ lw_big)
    (hdp : dp' + 1 ≤ dp ∧ maxL ≤ 31) (hst : st = As.reverse ++ .ref (ad (1000 + i)) :: rest) (hrest : (rest.map fun v => v.category).sum ≤ 8)
    (kk : ∀ (v : Option Value) (σ' : x_S) (τ' : x_L), P' v σ' τ' → V σ' τ' (pc + 3) lv (v.toList ++ rest)) : V σ τ pc lv st := by
  obtain ⟨p, l, e, R, s, m, args, below, meth, c, w0, D, ca, A, cells, slots, Q, rfl, S, ⟨hK, hN, hST⟩, hr, hlk, hf1, hf2, hf3, hf4, hA, hA2, hQ⟩ := X
  obtain ⟨hc1, hc2, hc3, hc4⟩ := hc
  obtain ⟨hi1, hi2, hq2⟩ := hi
  intro H locs ls h1 h2 h3 h4
  have hG : GoodIn (w0 :: lw_big) (wsV own index y.cls y (Cond.code y bytes maxL ret' :: lw_big)) := lw_big_good (fun w hw => by
    simp only [wsV, List.cons_append, List.nil_append, List.mem_cons] at hw
    rcases hw with rfl | rfl | rfl | rfl | rfl | hw
    · exact hl
    · exact hi1
    · exact hi2
    · exact hc2
    · exact hc1
    · exact hw)
  refine x_cont (va_runV (C := y.cls) (As := As) (rest := rest) S (hM l D ca H.size) (cwV As.length S.2.2.2.2 hG rfl rfl rfl ⟨rfl, hc3.1, hc3.2, hc4⟩ ⟨by show dp' + 1 ≤ R.frames; omega, by show 8 + (maxL + 11) + 50 * dp' ≤ R.locals; omega⟩)
    ⟨x_blind, by rw [hq2]; exact vk_recv (adK := fun i => ad (1000 + i)) (i := i) hST.1 hi9 h3, fun U hU hW => ⟨rfl, by rw [hU], by rw [hU]; exact h1, va_K.moved hW.alike hK, x_Dm h2 (fun _ _ _ => trivial), hN.warm hW, by rw [hU]; exact x_STcall hST h2 h3 hA hW⟩⟩ rfl rfl h4.1 hst (lv_room hrest) hd ⟨hf3, hf4⟩) h1 h2 h3 hA (fun v σ' τ' hp H1 locs1 g1 g2 g3 => kk v σ' τ' hp H1 locs1 ls g1 g2 g3 h4)
/-- a static call of another class's method -/
theorem x_callSO (X : x_Is V cc nL own ret ad ds dp P) {index : Nat} {y : MethodName} {bytes : ByteArray} {maxL : Nat} {ret' : Option FieldType} {dp' : Nat} {As : List Value} {P' : x_P} (rest : List Value)
    (hd : decode cc pc = .ok (.invokestatic index, 3)) (hM : x_Met y bytes maxL ret' dp' ad ds As σ τ P') (hc : x_CM y bytes maxL ret' As.length) (hi : Cond.static y ∈ lw_big) (hl : Cond.methodLink own index y ∈ lw_big)
    (hdp : dp' + 1 ≤ dp ∧ maxL ≤ 31) (hst : st = As.reverse ++ rest) (hrest : (rest.map fun v => v.category).sum ≤ 8)
    (kk : ∀ (v : Option Value) (σ' : x_S) (τ' : x_L), P' v σ' τ' → V σ' τ' (pc + 3) lv (v.toList ++ rest)) : V σ τ pc lv st := by
  obtain ⟨p, l, e, R, s, m, args, below, meth, c, w0, D, ca, A, cells, slots, Q, rfl, S, ⟨hK, hN, hST⟩, hr, hlk, hf1, hf2, hf3, hf4, hA, hA2, hQ⟩ := X
  obtain ⟨hc1, hc2, hc3, hc4⟩ := hc
  intro H locs ls h1 h2 h3 h4
  have hG : GoodIn (w0 :: lw_big) (va_wsS own index y (Cond.code y bytes maxL ret' :: lw_big)) := lw_big_good (fun w hw => by
    simp only [va_wsS, List.cons_append, List.nil_append, List.mem_cons] at hw
    rcases hw with rfl | rfl | rfl | rfl | hw
    · exact hl
    · exact hi
    · exact hc2
    · exact hc1
    · exact hw)
  refine x_cont (va_runS (As := As) (rest := rest) S (hM l D ca H.size) (va_cwS As.length S.2.2.2.2 hG rfl rfl rfl ⟨hc3.1, hc3.2, hc4⟩ ⟨by show dp' + 1 ≤ R.frames; omega, by show 8 + (maxL + 11) + 50 * dp' ≤ R.locals; omega⟩)
    ⟨x_blind, fun U hU hW => ⟨rfl, by rw [hU], by rw [hU]; exact h1, va_K.moved hW.alike hK, x_Dm h2 (fun _ _ _ => trivial), hN.warm hW, by rw [hU]; exact x_STcall hST h2 h3 hA hW⟩⟩ rfl rfl h4.1 hst (lv_room hrest) hd ⟨hf3, hf4⟩) h1 h2 h3 hA (fun v σ' τ' hp H1 locs1 g1 g2 g3 => kk v σ' τ' hp H1 locs1 ls g1 g2 g3 h4)
end XJ
theorem cmJ_coder : x_CM yJ0_coder_7d493 cJ0_coder_7d493 1 (some .byte) 0 := ⟨w_2_231, w_1_13, by decide +kernel, by decide +kernel⟩
theorem cmJ_isLatin1 : x_CM yJ0_isLatin1_aae02 cJ0_isLatin1_aae02 1 (some .boolean) 0 := ⟨w_3_1, w_1_13, by decide +kernel, by decide +kernel⟩
theorem cmJ_length : x_CM yJ0_length_8abf5 cJ0_length_8abf5 1 (some .int) 0 := ⟨w_2_227, w_1_13, by decide +kernel, by decide +kernel⟩
theorem cmJ_pre : x_CM yJ3_checkIndex_8e157 cJ3_checkIndex_8e157 3 (some .int) 3 := ⟨w_3_12, w_1_15, by decide +kernel, by decide +kernel⟩
theorem cmJ_chk : x_CM yJ0_checkIndex_df160 cJ0_checkIndex_df160 2 none 2 := ⟨w_3_7, w_1_13, by decide +kernel, by decide +kernel⟩
theorem cmJ_lat : x_CM yJ1_charAt_3b067 cJ1_charAt_3b067 2 (some .char) 2 := ⟨w_3_4, w_1_14, by decide +kernel, by decide +kernel⟩
theorem cmJ_charAt : x_CM yJ0_charAt_5068e cJ0_charAt_5068e 2 (some .char) 1 := ⟨w_2_237, w_1_13, by decide +kernel, by decide +kernel⟩
theorem cmJ_bitCount : x_CM yJ6_bitCount_0f7a4 cJ6_bitCount_0f7a4 1 (some .int) 1 := ⟨w_3_196, w_1_19, by decide +kernel, by decide +kernel⟩
set_option maxRecDepth 100000 in
theorem kJ_coder {ad : Nat → Nat} {ds : List x_D} {i : Nat} (hi : i < 9) {σ : x_S} {τ : x_L} {Q : Int32 → x_S → x_L → Prop} (h : Q 0 σ τ) : x_Met yJ0_coder_7d493 cJ0_coder_7d493 1 (some .byte) 0 ad ds [.ref (ad (1000 + i))] σ τ (x_PI Q) := by
  refine x_met (by decide +kernel) (Nat.le_of_ble_eq_true rfl) (fun V X => ?_)
  show V σ τ 0 [(0, .ref (ad (1000 + i)))] []
  refine x_cmp X dJ0_coder_7d493_0 w_2_232 ?_
  refine x_if_eq X 13 dJ0_coder_7d493_3 (by decide) (fun hc => absurd hc (by decide)) (fun _ => ?_)
  refine x_aload_n X dJ0_coder_7d493_6 rfl 0 rfl ?_
  refine x_strC X hi dJ0_coder_7d493_7 w_9_203 ?_
  refine x_goto X (tgt := 14) dJ0_coder_7d493_10 (by decide) ?_
  exact x_nret X rfl dJ0_coder_7d493_14 rfl ⟨_, rfl, h⟩
set_option maxRecDepth 100000 in
theorem kJ_isLatin1 {ad : Nat → Nat} {ds : List x_D} {i : Nat} (hi : i < 9) {σ : x_S} {τ : x_L} {Q : Int32 → x_S → x_L → Prop} (h : Q 1 σ τ) : x_Met yJ0_isLatin1_aae02 cJ0_isLatin1_aae02 1 (some .boolean) 0 ad ds [.ref (ad (1000 + i))] σ τ (x_PI Q) := by
  refine x_met (by decide +kernel) (Nat.le_of_ble_eq_true rfl) (fun V X => ?_)
  show V σ τ 0 [(0, .ref (ad (1000 + i)))] []
  refine x_cmp X dJ0_isLatin1_aae02_0 w_2_232 ?_
  refine x_if_eq X 17 dJ0_isLatin1_aae02_3 (by decide) (fun hc => absurd hc (by decide)) (fun _ => ?_)
  refine x_aload_n X dJ0_isLatin1_aae02_6 rfl 0 rfl ?_
  refine x_strC X hi dJ0_isLatin1_aae02_7 w_9_203 ?_
  refine x_if_ne X 17 dJ0_isLatin1_aae02_10 (by decide) (fun hc => absurd rfl hc) (fun _ => ?_)
  refine x_iconst X dJ0_isLatin1_aae02_13 ki_1 ?_
  refine x_goto X (tgt := 18) dJ0_isLatin1_aae02_14 (by decide) ?_
  exact x_nret X rfl dJ0_isLatin1_aae02_18 rfl ⟨_, rfl, h⟩
set_option maxRecDepth 100000 in
theorem kJ_length {ad : Nat → Nat} {ds : List x_D} {i : Nat} (hi : i < 9) {σ : x_S} {τ : x_L} {Q : Int32 → x_S → x_L → Prop} (h : Q (nI (x_len.getD i 0)) σ τ) : x_Met yJ0_length_8abf5 cJ0_length_8abf5 1 (some .int) 1 ad ds [.ref (ad (1000 + i))] σ τ (x_PI Q) := by
  refine x_met (by decide +kernel) (Nat.le_of_ble_eq_true rfl) (fun V X => ?_)
  show V σ τ 0 [(0, .ref (ad (1000 + i)))] []
  refine x_aload_n X dJ0_length_8abf5_0 rfl 0 rfl ?_
  refine x_strF X hi dJ0_length_8abf5_1 w_9_202 ?_
  refine x_strL X hi dJ0_length_8abf5_4 ?_
  refine x_aload_n X dJ0_length_8abf5_5 rfl 0 rfl ?_
  refine x_callT X hi (As := []) [.int (nI (x_len.getD i 0))] dJ0_length_8abf5_6 (kJ_coder hi (Q := fun r σ' τ' => r = 0 ∧ σ' = σ ∧ τ' = τ) ⟨rfl, rfl, rfl⟩) cmJ_coder ⟨w_2_229, w_2_230, rfl⟩ w_2_228 ⟨by decide, by decide⟩ rfl (Nat.le_of_ble_eq_true rfl) (fun v σ' τ' hv => ?_)
  obtain ⟨r, rfl, rfl, rfl, rfl⟩ := hv
  refine x_ishr X dJ0_length_8abf5_9 ?_
  have e : nI (x_len.getD i 0) >>> ((0 : Int32) &&& 31) = nI (x_len.getD i 0) := sc_shr0 ((by decide : ∀ i, i < 9 → x_len.getD i 0 < 2 ^ 31) i hi)
  rw [e]
  exact x_nret X rfl dJ0_length_8abf5_10 rfl ⟨_, rfl, h⟩
set_option maxRecDepth 100000 in
theorem kJ_pre {ad : Nat → Nat} {ds : List x_D} {a b : Int32} {v : Value} (hv : v = .null ∨ ∃ t, v = .ref t) (h0 : ¬ a < 0) (h1 : a < b) {σ : x_S} {τ : x_L} {Q : Int32 → x_S → x_L → Prop} (h : Q a σ τ) : x_Met yJ3_checkIndex_8e157 cJ3_checkIndex_8e157 3 (some .int) 0 ad ds [.int a, .int b, v] σ τ (x_PI Q) := by
  have hcat : v.category = 1 := by rcases hv with rfl | ⟨t, rfl⟩ <;> rfl
  refine x_met (by decide +kernel) (by rcases hv with rfl | ⟨t, rfl⟩ <;> exact Nat.le_of_ble_eq_true rfl) (fun V X => ?_)
  show V σ τ 0 [(0, .int a), (1, .int b), (2, v)] []
  refine x_iload_n X dJ3_checkIndex_8e157_0 rfl 0 rfl ?_
  refine x_if_lt X 9 dJ3_checkIndex_8e157_1 (by decide) (fun hc => absurd hc h0) (fun _ => ?_)
  refine x_iload_n X dJ3_checkIndex_8e157_4 rfl 0 rfl ?_
  refine x_iload_n X dJ3_checkIndex_8e157_5 rfl 1 rfl ?_
  refine x_icmp_lt X 16 dJ3_checkIndex_8e157_6 (by decide) (fun _ => ?_) (fun hc => absurd h1 hc)
  refine x_iload_n X dJ3_checkIndex_8e157_16 rfl 0 rfl ?_
  exact x_nret X rfl dJ3_checkIndex_8e157_17 rfl ⟨_, rfl, h⟩
set_option maxRecDepth 100000 in
theorem kJ_chk {ad : Nat → Nat} {ds : List x_D} {a b : Int32} (h0 : ¬ a < 0) (h1 : a < b) {σ : x_S} {τ : x_L} {Q : x_S → x_L → Prop} (h : Q σ τ) : x_Met yJ0_checkIndex_df160 cJ0_checkIndex_df160 2 none 1 ad ds [.int a, .int b] σ τ (x_PV Q) := by
  refine x_met (by decide +kernel) (Nat.le_of_ble_eq_true rfl) (fun V X => ?_)
  show V σ τ 0 [(0, .int a), (1, .int b)] []
  refine x_iload_n X dJ0_checkIndex_df160_0 rfl 0 rfl ?_
  refine x_iload_n X dJ0_checkIndex_df160_1 rfl 1 rfl ?_
  refine x_sio X dJ0_checkIndex_df160_2 w_3_8 (fun v hv => ?_)
  refine x_callSO X (As := [.int a, .int b, v]) [] dJ0_checkIndex_df160_5 (kJ_pre hv h0 h1 (Q := fun r σ' τ' => r = a ∧ σ' = σ ∧ τ' = τ) ⟨rfl, rfl, rfl⟩) cmJ_pre w_3_11 w_3_10 ⟨by decide, by decide⟩ rfl (Nat.le_of_ble_eq_true rfl) (fun w σ' τ' hw => ?_)
  obtain ⟨r, rfl, rfl, rfl, rfl⟩ := hw
  refine x_pop X dJ0_checkIndex_df160_8 rfl ?_
  exact x_vret X dJ0_checkIndex_df160_9 ⟨rfl, h⟩
theorem x_chb : ∀ i, i < 9 → ∀ j, j < x_len.getD i 0 → (((x_byt.getD i []).getD j 0 &&& 255 : Int32).toUInt32.toUInt16.toUInt32.toInt32 = (x_byt.getD i []).getD j 0) ∧ narrow .char (.int ((x_byt.getD i []).getD j 0)) = .int ((x_byt.getD i []).getD j 0) := by decide
theorem x_inlen {a : Int32} {n : Nat} (h : vp_in a n) (hn : n < 2 ^ 31) : ¬ a < 0 ∧ a < nI n ∧ a.toNatClampNeg < n := by
  obtain ⟨j, hj, rfl⟩ := vp_in_of h hn
  exact ⟨nI_pos (by omega), nI_lt hj hn, by rw [nI_clamp (by omega)]; exact hj⟩
theorem x_lenlt {i : Nat} (hi : i < 9) : x_len.getD i 0 < 2 ^ 31 := (by decide : ∀ i, i < 9 → x_len.getD i 0 < 2 ^ 31) i hi
set_option maxRecDepth 100000 in
theorem kJ_lat {ad : Nat → Nat} {ds : List x_D} {i : Nat} (hi : i < 9) {a : Int32} (ha : vp_in a (x_len.getD i 0)) {σ : x_S} {τ : x_L} {Q : Int32 → x_S → x_L → Prop} (h : Q ((x_byt.getD i []).getD a.toNatClampNeg 0) σ τ) : x_Met yJ1_charAt_3b067 cJ1_charAt_3b067 2 (some .char) 2 ad ds [.ref (ad (2000 + i)), .int a] σ τ (x_PI Q) := by
  obtain ⟨g0, g1, g2⟩ := x_inlen ha (x_lenlt hi)
  obtain ⟨e1, e2⟩ := x_chb i hi _ g2
  refine x_met (by decide +kernel) (Nat.le_of_ble_eq_true rfl) (fun V X => ?_)
  show V σ τ 0 [(0, .ref (ad (2000 + i))), (1, .int a)] []
  refine x_iload_n X dJ1_charAt_3b067_0 rfl 1 rfl ?_
  refine x_aload_n X dJ1_charAt_3b067_1 rfl 0 rfl ?_
  refine x_strL X hi dJ1_charAt_3b067_2 ?_
  refine x_callSO X (As := [.int a, .int (nI (x_len.getD i 0))]) [] dJ1_charAt_3b067_3 (kJ_chk g0 g1 (Q := fun σ' τ' => σ' = σ ∧ τ' = τ) ⟨rfl, rfl⟩) cmJ_chk w_3_6 w_3_5 ⟨by decide, by decide⟩ rfl (Nat.le_of_ble_eq_true rfl) (fun w σ' τ' hw => ?_)
  obtain ⟨rfl, rfl, rfl⟩ := hw
  refine x_aload_n X dJ1_charAt_3b067_6 rfl 0 rfl ?_
  refine x_iload_n X dJ1_charAt_3b067_7 rfl 1 rfl ?_
  refine x_strB X hi dJ1_charAt_3b067_8 ha ?_
  refine x_sipush X dJ1_charAt_3b067_9 ks_255 ?_
  refine x_iand X dJ1_charAt_3b067_12 ?_
  refine x_i2c X dJ1_charAt_3b067_13 e1 ?_
  exact x_nret X rfl dJ1_charAt_3b067_14 e2 ⟨_, rfl, h⟩
set_option maxRecDepth 100000 in
theorem kJ_charAt {ad : Nat → Nat} {ds : List x_D} {i : Nat} (hi : i < 9) {a : Int32} (ha : vp_in a (x_len.getD i 0)) {σ : x_S} {τ : x_L} {Q : Int32 → x_S → x_L → Prop} (h : Q ((x_byt.getD i []).getD a.toNatClampNeg 0) σ τ) : x_Met yJ0_charAt_5068e cJ0_charAt_5068e 2 (some .char) 3 ad ds [.ref (ad (1000 + i)), .int a] σ τ (x_PI Q) := by
  obtain ⟨g0, g1, g2⟩ := x_inlen ha (x_lenlt hi)
  obtain ⟨e1, e2⟩ := x_chb i hi _ g2
  refine x_met (by decide +kernel) (Nat.le_of_ble_eq_true rfl) (fun V X => ?_)
  show V σ τ 0 [(0, .ref (ad (1000 + i))), (1, .int a)] []
  refine x_aload_n X dJ0_charAt_5068e_0 rfl 0 rfl ?_
  refine x_callT X hi (As := []) [] dJ0_charAt_5068e_1 (kJ_isLatin1 hi (Q := fun r σ' τ' => r = 1 ∧ σ' = σ ∧ τ' = τ) ⟨rfl, rfl, rfl⟩) cmJ_isLatin1 ⟨w_2_239, w_3_0, rfl⟩ w_2_238 ⟨by decide, by decide⟩ rfl (Nat.le_of_ble_eq_true rfl) (fun v σ' τ' hv => ?_)
  obtain ⟨r, rfl, rfl, rfl, rfl⟩ := hv
  refine x_if_eq X 16 dJ0_charAt_5068e_4 (by decide) (fun hc => absurd hc (by decide)) (fun _ => ?_)
  refine x_aload_n X dJ0_charAt_5068e_7 rfl 0 rfl ?_
  refine x_strF X hi dJ0_charAt_5068e_8 w_9_202 ?_
  refine x_iload_n X dJ0_charAt_5068e_11 rfl 1 rfl ?_
  refine x_callSO X (As := [.ref (ad (2000 + i)), .int a]) [] dJ0_charAt_5068e_12 (kJ_lat hi ha (Q := fun r σ2 τ2 => r = (x_byt.getD i []).getD a.toNatClampNeg 0 ∧ σ2 = σ' ∧ τ2 = τ') ⟨rfl, rfl, rfl⟩) cmJ_lat w_3_3 w_3_2 ⟨by decide, by decide⟩ rfl (Nat.le_of_ble_eq_true rfl) (fun v σ2 τ2 hv => ?_)
  obtain ⟨r, rfl, rfl, rfl, rfl⟩ := hv
  exact x_nret X rfl dJ0_charAt_5068e_15 e2 ⟨_, rfl, h⟩
section XF
variable {p : Program} {l : Launch} {e : Env} {R : Room} {s : State} {m : MethodId} {args : Array Value} {below : List Frame} {meth : Method} {c : Code} {locs : List Loc} {cells slots : Nat}
theorem x_ldcwF0 {T : State} (X : Stand p l e R s m args below meth c T locs cells slots) (hexec : p.tables.exec = Jvm.exec) {own : String} {index : Nat} {v : UInt32} (hown : s.vm.findClass own = some m.cls)
    (hconst : (Cond.constantFloat own index v).before args s = true) {g : JFrame} (hg : g.method = m) (hdg : decode c.code g.pc = .ok (.ldc_w index, 3)) :
    ∀ target, Steps p.tables e below (T.setTop { g with pc := g.pc + 3, stack := .float v :: g.stack }) target → Steps p.tables e below (T.setTop g) target := by
  obtain ⟨k, cf, hk, hcf, hcp⟩ := Cond.constantFloat_spec hown hconst
  obtain ⟨k', hk', he⟩ := X.warmed.alike.2.2 _ _ hk
  intro target hrest
  subst hg
  jvm_step X.here [hexec, hdg, ldc_w.wp_float (s := T) (f := g) X.here.top hk' (by rw [he]; exact hcf) hcp]
  exact hrest
end XF
section XJ
variable {V : x_J} {cc : ByteArray} {nL : Nat} {own : String} {ret : Option FieldType} {ad : Nat → Nat} {ds : List x_D} {dp : Nat} {P : x_P} {σ : x_S} {τ : x_L} {pc : Nat} {lv lv' : List (Nat × Value)} {st rest : List Value}
theorem x_ldcwF (X : x_Is V cc nL own ret ad ds dp P) {index : Nat} {v : UInt32} (hd : decode cc pc = .ok (.ldc_w index, 3)) (hw : Cond.constantFloat own index v ∈ lw_big) (k9 : V σ τ (pc + 3) lv (.float v :: rest)) : V σ τ pc lv rest := by
  obtain ⟨p, l, e, R, s, m, args, below, meth, c, w0, D, ca, A, cells, slots, Q, rfl, S, -⟩ := X
  intro H locs ls h1 h2 h3 h4 T hT X
  obtain ⟨t, a, b⟩ := k9 H locs ls h1 h2 h3 h4 T hT X
  exact ⟨t, x_ldcwF0 X S.1 S.2.2.2.1 (S.2.2.2.2 _ (List.mem_cons_of_mem _ hw)) (g := F0 m pc ls rest) rfl (by rw [S.2.1]; exact hd) t a, b⟩
theorem x_ldcS (X : x_Is V cc nL own ret ad ds dp P) {index i : Nat} {tx : String} (hd : decode cc pc = .ok (.ldc index, 2)) (hw : (own, index, tx, i) ∈ lw_str) (k9 : V σ τ (pc + 2) lv (.ref (ad (1000 + i)) :: rest)) : V σ τ pc lv rest := by
  obtain ⟨p, l, e, R, s, m, args, below, meth, c, w0, D, ca, A, cells, slots, Q, rfl, S, ⟨hK, hN, hST⟩, -⟩ := X
  exact fun H locs ls h1 h2 h3 h4 => va_ldcS S.1 S.2.1 S.2.2.2.1 (hN.2.2.2.2 _ hw) hd (k9 H locs ls h1 h2 h3 h4)
theorem x_ifnull (X : x_Is V cc nL own ret ad ds dp P) {x : Nat} {off : Int} (hd : decode cc pc = .ok (.ifnull off, 3)) (k9 : V σ τ (pc + 3) lv rest) : V σ τ pc lv (.ref x :: rest) := by
  obtain ⟨p, l, e, R, s, m, args, below, meth, c, w0, D, ca, A, cells, slots, Q, rfl, S, -⟩ := X
  exact fun H locs ls h1 h2 h3 h4 => lv_ifnull S.1 S.2.1 hd (k9 H locs ls h1 h2 h3 h4)
theorem x_i2f (X : x_Is V cc nL own ret ad ds dp P) {x : Int32} (hd : decode cc pc = .ok (.i2f, 1)) (k9 : V σ τ (pc + 1) lv (.float (FP.i2f x) :: rest)) : V σ τ pc lv (.int x :: rest) := by
  obtain ⟨p, l, e, R, s, m, args, below, meth, c, w0, D, ca, A, cells, slots, Q, rfl, S, -⟩ := X
  exact fun H locs ls h1 h2 h3 h4 => lv_i2f S.1 S.2.1 hd (k9 H locs ls h1 h2 h3 h4)
theorem x_f2i (X : x_Is V cc nL own ret ad ds dp P) {x : UInt32} (hd : decode cc pc = .ok (.f2i, 1)) (k9 : V σ τ (pc + 1) lv (.int (FP.f2i x) :: rest)) : V σ τ pc lv (.float x :: rest) := by
  obtain ⟨p, l, e, R, s, m, args, below, meth, c, w0, D, ca, A, cells, slots, Q, rfl, S, -⟩ := X
  exact fun H locs ls h1 h2 h3 h4 => lv_f2i S.1 S.2.1 hd (k9 H locs ls h1 h2 h3 h4)
theorem x_fcmp (X : x_Is V cc nL own ret ad ds dp P) {x y : UInt32} {op : CmpOp} (hd : decode cc pc = .ok (.fcmp op, 1)) (k9 : V σ τ (pc + 1) lv (.int (Op.cmpValue (FP.fcmp x y) op) :: rest)) : V σ τ pc lv (.float y :: .float x :: rest) := by
  obtain ⟨p, l, e, R, s, m, args, below, meth, c, w0, D, ca, A, cells, slots, Q, rfl, S, -⟩ := X
  exact fun H locs ls h1 h2 h3 h4 => lv_fcmp S.1 S.2.1 hd (k9 H locs ls h1 h2 h3 h4)
theorem x_rawbits (X : x_Is V cc nL own ret ad ds dp P) {index : Nat} {b : UInt32} (hd : decode cc pc = .ok (.invokestatic index, 3)) (hl : Cond.methodLink own index ⟨"java/lang/Float", "floatToRawIntBits", "(F)I"⟩ ∈ lw_big) (hdp : 1 ≤ dp) (hrest : (rest.map fun v => v.category).sum ≤ 8) (k9 : V σ τ (pc + 3) lv (.int b.toInt32 :: rest)) : V σ τ pc lv (.float b :: rest) := by
  obtain ⟨p, l, e, R, s, m, args, below, meth, c, w0, D, ca, A, cells, slots, Q, rfl, S, ⟨hK, hN, hST⟩, hr, hlk, hf1, hf2, hf3, hf4, hA, hA2, hQ⟩ := X
  have hb : ∀ w ∈ lw_big, w.before args s = true := fun w h => S.2.2.2.2 w (List.mem_cons_of_mem _ h)
  exact fun H locs ls h1 h2 h3 h4 => vn_f2i S.1 S.2.1 (S.2.2.1.trans h4.1.symm) S.2.2.2.1 (hb _ hl) (hb _ w_9_55) (hb _ w_9_54) (hb _ w_1_28) (by omega) (by omega) hd (k9 H locs ls h1 h2 h3 h4)
theorem x_fret (X : x_Is V cc nL own (some .float) ad ds dp P) {v : UInt32} (hd : decode cc pc = .ok (.freturn, 1)) (h : P (some (.float v)) σ τ) : V σ τ pc lv [.float v] := by
  obtain ⟨p, l, e, R, s, m, args, below, meth, c, w0, D, ca, A, cells, slots, Q, rfl, S, hK, hr, hlk, hf1, hf2, hf3, hf4, hA, hA2, hQ⟩ := X
  intro H locs ls h1 h2 h3 h4
  exact hQ H locs _ (W.fret S.1 S.2.1 hr (fun t ht _ => ⟨⟨_, σ, τ, rfl, h, by rw [ht]; exact h1⟩, ⟨by rw [ht]; exact h3.1, fun q a b => by rw [ht]; exact h3.2.1 q a (fun z => b (hA2 q z))⟩⟩) h3.2.2 hd hlk)
theorem x_fconst0 (X : x_Is V cc nL own ret ad ds dp P) (hd : decode cc pc = .ok (.fconst 0, 1)) (k9 : V σ τ (pc + 1) lv (.float FP.fconst0 :: rest)) : V σ τ pc lv rest := by
  obtain ⟨p, l, e, R, s, m, args, below, meth, c, w0, D, ca, A, cells, slots, Q, rfl, S, -⟩ := X
  exact fun H locs ls h1 h2 h3 h4 => lv_fconst0 S.1 S.2.1 hd (k9 H locs ls h1 h2 h3 h4)
theorem x_fconst1 (X : x_Is V cc nL own ret ad ds dp P) (hd : decode cc pc = .ok (.fconst 1, 1)) (k9 : V σ τ (pc + 1) lv (.float FP.fconst1 :: rest)) : V σ τ pc lv rest := by
  obtain ⟨p, l, e, R, s, m, args, below, meth, c, w0, D, ca, A, cells, slots, Q, rfl, S, -⟩ := X
  exact fun H locs ls h1 h2 h3 h4 => lv_fconst1 S.1 S.2.1 hd (k9 H locs ls h1 h2 h3 h4)
theorem x_fconst2 (X : x_Is V cc nL own ret ad ds dp P) (hd : decode cc pc = .ok (.fconst 2, 1)) (k9 : V σ τ (pc + 1) lv (.float FP.fconst2 :: rest)) : V σ τ pc lv rest := by
  obtain ⟨p, l, e, R, s, m, args, below, meth, c, w0, D, ca, A, cells, slots, Q, rfl, S, -⟩ := X
  exact fun H locs ls h1 h2 h3 h4 => lv_fconst2 S.1 S.2.1 hd (k9 H locs ls h1 h2 h3 h4)
theorem x_fdiv (X : x_Is V cc nL own ret ad ds dp P) {x y : UInt32} (hd : decode cc pc = .ok (.fdiv, 1)) (hn : vf_n32 (FP.fdiv x y)) (k9 : V σ τ (pc + 1) lv (.float (FP.fdiv x y) :: rest)) : V σ τ pc lv (.float y :: .float x :: rest) := by
  obtain ⟨p, l, e, R, s, m, args, below, meth, c, w0, D, ca, A, cells, slots, Q, rfl, S, -⟩ := X
  exact fun H locs ls h1 h2 h3 h4 => lv_fdiv S.1 S.2.1 hd hn (k9 H locs ls h1 h2 h3 h4)
theorem x_fmul (X : x_Is V cc nL own ret ad ds dp P) {x y : UInt32} (hd : decode cc pc = .ok (.fmul, 1)) (hn : vf_n32 (FP.fmul x y)) (k9 : V σ τ (pc + 1) lv (.float (FP.fmul x y) :: rest)) : V σ τ pc lv (.float y :: .float x :: rest) := by
  obtain ⟨p, l, e, R, s, m, args, below, meth, c, w0, D, ca, A, cells, slots, Q, rfl, S, -⟩ := X
  exact fun H locs ls h1 h2 h3 h4 => lv_fmul S.1 S.2.1 hd hn (k9 H locs ls h1 h2 h3 h4)
theorem x_fsub (X : x_Is V cc nL own ret ad ds dp P) {x y : UInt32} (hd : decode cc pc = .ok (.fsub, 1)) (hn : vf_n32 (FP.fsub x y)) (k9 : V σ τ (pc + 1) lv (.float (FP.fsub x y) :: rest)) : V σ τ pc lv (.float y :: .float x :: rest) := by
  obtain ⟨p, l, e, R, s, m, args, below, meth, c, w0, D, ca, A, cells, slots, Q, rfl, S, -⟩ := X
  exact fun H locs ls h1 h2 h3 h4 => lv_fsub S.1 S.2.1 hd hn (k9 H locs ls h1 h2 h3 h4)
theorem x_callSOi (X : x_Is V cc nL own ret ad ds dp P) {index : Nat} {y : MethodName} {bytes : ByteArray} {maxL : Nat} {ret' : Option FieldType} {dp' : Nat} (As : List Value) {Q2 : Int32 → x_S → x_L → Prop} (rest : List Value)
    (hd : decode cc pc = .ok (.invokestatic index, 3)) (hM : x_Met y bytes maxL ret' dp' ad ds As σ τ (x_PI Q2)) (hc : x_CM y bytes maxL ret' As.length) (hi : Cond.static y ∈ lw_big) (hl : Cond.methodLink own index y ∈ lw_big)
    (hdp : dp' + 1 ≤ dp ∧ maxL ≤ 31) (hst : st = As.reverse ++ rest) (hrest : (rest.map fun v => v.category).sum ≤ 8) (kk : ∀ (r : Int32) (σ2 : x_S) (τ2 : x_L), Q2 r σ2 τ2 → V σ2 τ2 (pc + 3) lv (.int r :: rest)) : V σ τ pc lv st :=
  x_callSO X rest hd hM hc hi hl hdp hst hrest (fun v σ2 τ2 h => by obtain ⟨r, rfl, h⟩ := h; exact kk r σ2 τ2 h)
theorem x_callSOf (X : x_Is V cc nL own ret ad ds dp P) {index : Nat} {y : MethodName} {bytes : ByteArray} {maxL : Nat} {ret' : Option FieldType} {dp' : Nat} (As : List Value) {Q2 : UInt32 → x_S → x_L → Prop} (rest : List Value)
    (hd : decode cc pc = .ok (.invokestatic index, 3)) (hM : x_Met y bytes maxL ret' dp' ad ds As σ τ (x_PF Q2)) (hc : x_CM y bytes maxL ret' As.length) (hi : Cond.static y ∈ lw_big) (hl : Cond.methodLink own index y ∈ lw_big)
    (hdp : dp' + 1 ≤ dp ∧ maxL ≤ 31) (hst : st = As.reverse ++ rest) (hrest : (rest.map fun v => v.category).sum ≤ 8) (kk : ∀ (r : UInt32) (σ2 : x_S) (τ2 : x_L), Q2 r σ2 τ2 → V σ2 τ2 (pc + 3) lv (.float r :: rest)) : V σ τ pc lv st :=
  x_callSO X rest hd hM hc hi hl hdp hst hrest (fun v σ2 τ2 h => by obtain ⟨r, rfl, h⟩ := h; exact kk r σ2 τ2 h)
theorem x_callSOv (X : x_Is V cc nL own ret ad ds dp P) {index : Nat} {y : MethodName} {bytes : ByteArray} {maxL : Nat} {ret' : Option FieldType} {dp' : Nat} (As : List Value) {Q2 : x_S → x_L → Prop} (rest : List Value)
    (hd : decode cc pc = .ok (.invokestatic index, 3)) (hM : x_Met y bytes maxL ret' dp' ad ds As σ τ (x_PV Q2)) (hc : x_CM y bytes maxL ret' As.length) (hi : Cond.static y ∈ lw_big) (hl : Cond.methodLink own index y ∈ lw_big)
    (hdp : dp' + 1 ≤ dp ∧ maxL ≤ 31) (hst : st = As.reverse ++ rest) (hrest : (rest.map fun v => v.category).sum ≤ 8) (kk : ∀ (σ2 : x_S) (τ2 : x_L), Q2 σ2 τ2 → V σ2 τ2 (pc + 3) lv rest) : V σ τ pc lv st :=
  x_callSO X rest hd hM hc hi hl hdp hst hrest (fun v σ2 τ2 h => by obtain ⟨rfl, h⟩ := h; exact kk σ2 τ2 h)
theorem x_callTi (X : x_Is V cc nL own ret ad ds dp P) {index : Nat} {i : Nat} (hi9 : i < 9) {y : MethodName} {bytes : ByteArray} {maxL : Nat} {ret' : Option FieldType} {dp' : Nat} (As : List Value) {Q2 : Int32 → x_S → x_L → Prop} (rest : List Value)
    (hd : decode cc pc = .ok (.invokevirtual index, 3)) (hM : x_Met y bytes maxL ret' dp' ad ds (.ref (ad (1000 + i)) :: As) σ τ (x_PI Q2)) (hc : x_CM y bytes maxL ret' As.length) (hi : Cond.instanceMethod y ∈ lw_big ∧ Cond.selects y.cls y y ∈ lw_big ∧ y.cls = "java/lang/String") (hl : Cond.methodLink own index y ∈ lw_big)
    (hdp : dp' + 1 ≤ dp ∧ maxL ≤ 31) (hst : st = As.reverse ++ .ref (ad (1000 + i)) :: rest) (hrest : (rest.map fun v => v.category).sum ≤ 8) (kk : ∀ (r : Int32) (σ2 : x_S) (τ2 : x_L), Q2 r σ2 τ2 → V σ2 τ2 (pc + 3) lv (.int r :: rest)) : V σ τ pc lv st :=
  x_callT X hi9 rest hd hM hc hi hl hdp hst hrest (fun v σ2 τ2 h => by obtain ⟨r, rfl, h⟩ := h; exact kk r σ2 τ2 h)
theorem x_callTf (X : x_Is V cc nL own ret ad ds dp P) {index : Nat} {i : Nat} (hi9 : i < 9) {y : MethodName} {bytes : ByteArray} {maxL : Nat} {ret' : Option FieldType} {dp' : Nat} (As : List Value) {Q2 : UInt32 → x_S → x_L → Prop} (rest : List Value)
    (hd : decode cc pc = .ok (.invokevirtual index, 3)) (hM : x_Met y bytes maxL ret' dp' ad ds (.ref (ad (1000 + i)) :: As) σ τ (x_PF Q2)) (hc : x_CM y bytes maxL ret' As.length) (hi : Cond.instanceMethod y ∈ lw_big ∧ Cond.selects y.cls y y ∈ lw_big ∧ y.cls = "java/lang/String") (hl : Cond.methodLink own index y ∈ lw_big)
    (hdp : dp' + 1 ≤ dp ∧ maxL ≤ 31) (hst : st = As.reverse ++ .ref (ad (1000 + i)) :: rest) (hrest : (rest.map fun v => v.category).sum ≤ 8) (kk : ∀ (r : UInt32) (σ2 : x_S) (τ2 : x_L), Q2 r σ2 τ2 → V σ2 τ2 (pc + 3) lv (.float r :: rest)) : V σ τ pc lv st :=
  x_callT X hi9 rest hd hM hc hi hl hdp hst hrest (fun v σ2 τ2 h => by obtain ⟨r, rfl, h⟩ := h; exact kk r σ2 τ2 h)
theorem x_callTv (X : x_Is V cc nL own ret ad ds dp P) {index : Nat} {i : Nat} (hi9 : i < 9) {y : MethodName} {bytes : ByteArray} {maxL : Nat} {ret' : Option FieldType} {dp' : Nat} (As : List Value) {Q2 : x_S → x_L → Prop} (rest : List Value)
    (hd : decode cc pc = .ok (.invokevirtual index, 3)) (hM : x_Met y bytes maxL ret' dp' ad ds (.ref (ad (1000 + i)) :: As) σ τ (x_PV Q2)) (hc : x_CM y bytes maxL ret' As.length) (hi : Cond.instanceMethod y ∈ lw_big ∧ Cond.selects y.cls y y ∈ lw_big ∧ y.cls = "java/lang/String") (hl : Cond.methodLink own index y ∈ lw_big)
    (hdp : dp' + 1 ≤ dp ∧ maxL ≤ 31) (hst : st = As.reverse ++ .ref (ad (1000 + i)) :: rest) (hrest : (rest.map fun v => v.category).sum ≤ 8) (kk : ∀ (σ2 : x_S) (τ2 : x_L), Q2 σ2 τ2 → V σ2 τ2 (pc + 3) lv rest) : V σ τ pc lv st :=
  x_callT X hi9 rest hd hM hc hi hl hdp hst hrest (fun v σ2 τ2 h => by obtain ⟨rfl, h⟩ := h; exact kk σ2 τ2 h)
end XJ
section XX
variable {V : x_J} {cc : ByteArray} {nL : Nat} {own : String} {ret : Option FieldType} {ad : Nat → Nat} {ds : List x_D} {dp j K : Nat} {P : x_P} {PX : x_PE} {σ : x_S} {τ : x_L} {pc : Nat} {lv : List (Nat × Value)} {st : List Value}
theorem x_callVXv (X : x_IsX V cc nL own ret ad ds dp P PX j K) {index k : Nat} {q0 ci : Nat} {fs : List Nat} {y : MethodName} {bytes : ByteArray} {maxL : Nat} {ret' : Option FieldType} {dp' : Nat} (As : List Value) {Q2 : x_S → x_L → Prop} (rest : List Value)
    (hd : decode cc pc = .ok (.invokevirtual index, 3)) (hM : x_MetX y bytes maxL ret' dp' k ad ds (.ref (ad q0) :: As) σ τ (x_PV Q2) PX) (hc : x_CM y bytes maxL ret' As.length) (hi : x_CI y ci) (hl : Cond.methodLink own index y ∈ lw_big) (hds : ds[q0]? = some (0, ci, fs))
    (hdp : dp' + 1 ≤ dp ∧ maxL ≤ 31) (hj : j + k ≤ K) (hst : st = As.reverse ++ .ref (ad q0) :: rest) (hrest : (rest.map fun v => v.category).sum ≤ 8)
    (kk : ∀ (V' : x_J) (σ2 : x_S) (τ2 : x_L), x_IsX V' cc nL own ret ad ds dp P PX (j + k) K → Q2 σ2 τ2 → V' σ2 τ2 (pc + 3) lv rest) : V σ τ pc lv st :=
  x_callVX X rest hd hM hc hi hl hds hdp hj hst hrest (fun _ _ _ h => h) (fun V' v σ2 τ2 Y h => by obtain ⟨rfl, h⟩ := h; exact kk V' σ2 τ2 Y h)
theorem x_callSXv (X : x_IsX V cc nL own ret ad ds dp P PX j K) {index k : Nat}  {y : MethodName} {bytes : ByteArray} {maxL : Nat} {ret' : Option FieldType} {dp' : Nat} (As : List Value) {Q2 : x_S → x_L → Prop} (rest : List Value)
    (hd : decode cc pc = .ok (.invokestatic index, 3)) (hM : x_MetX y bytes maxL ret' dp' k ad ds As σ τ (x_PV Q2) PX) (hc : x_CM y bytes maxL ret' As.length) (hi : Cond.static y ∈ lw_big) (ho : y.cls = own) (hl : Cond.methodLink own index y ∈ lw_big)
    (hdp : dp' + 1 ≤ dp ∧ maxL ≤ 31) (hj : j + k ≤ K) (hst : st = As.reverse ++ rest) (hrest : (rest.map fun v => v.category).sum ≤ 8)
    (kk : ∀ (V' : x_J) (σ2 : x_S) (τ2 : x_L), x_IsX V' cc nL own ret ad ds dp P PX (j + k) K → Q2 σ2 τ2 → V' σ2 τ2 (pc + 3) lv rest) : V σ τ pc lv st :=
  x_callSX X rest hd hM hc hi ho hl hdp hj hst hrest (fun _ _ _ h => h) (fun V' v σ2 τ2 Y h => by obtain ⟨rfl, h⟩ := h; exact kk V' σ2 τ2 Y h)
end XX
theorem x_exIO_a : ∀ w ∈ (vx_atS RX10 477 "java/lang/IndexOutOfBoundsException" ["java/lang/RuntimeException", "java/lang/Exception"]).filter goodWord, w ∈ lw_tbl := by decide +kernel
theorem x_exIO : ∀ w ∈ (vx_atS RX10 477 "java/lang/IndexOutOfBoundsException" ["java/lang/RuntimeException", "java/lang/Exception"]).filter goodWord, w ∈ lw_big := fun w h => lw_big_of (x_exIO_a w h) (List.mem_filter.mp h).2
theorem x_exIO_b : ∀ w ∈ (vx_atS RX10 477 "java/lang/IndexOutOfBoundsException" ["java/lang/RuntimeException", "java/lang/Exception"]).filter (fun w => !goodWord w), w ∈ Cond.castable "java/lang/IndexOutOfBoundsException" "java/lang/IndexOutOfBoundsException" :: lw_decl.map (fun c => Cond.declares ⟨c, "<init>", "(Ljava/lang/String;)V"⟩) := by decide +kernel
theorem x_exIO_c : ∀ w ∈ Cond.classLink RX10 473 "java/lang/IndexOutOfBoundsException" :: Cond.initialized "java/lang/IndexOutOfBoundsException" :: vx_atS RX10 477 "java/lang/IndexOutOfBoundsException" ["java/lang/RuntimeException", "java/lang/Exception"], vx_ot w = true := by decide +kernel
theorem x_exIA_a : ∀ w ∈ (vx_atS RX10 490 "java/lang/IllegalArgumentException" ["java/lang/RuntimeException", "java/lang/Exception"]).filter goodWord, w ∈ lw_tbl := by decide +kernel
theorem x_exIA : ∀ w ∈ (vx_atS RX10 490 "java/lang/IllegalArgumentException" ["java/lang/RuntimeException", "java/lang/Exception"]).filter goodWord, w ∈ lw_big := fun w h => lw_big_of (x_exIA_a w h) (List.mem_filter.mp h).2
theorem x_exIA_b : ∀ w ∈ (vx_atS RX10 490 "java/lang/IllegalArgumentException" ["java/lang/RuntimeException", "java/lang/Exception"]).filter (fun w => !goodWord w), w ∈ Cond.castable "java/lang/IllegalArgumentException" "java/lang/IllegalArgumentException" :: lw_decl.map (fun c => Cond.declares ⟨c, "<init>", "(Ljava/lang/String;)V"⟩) := by decide +kernel
theorem x_exIA_c : ∀ w ∈ Cond.classLink RX10 486 "java/lang/IllegalArgumentException" :: Cond.initialized "java/lang/IllegalArgumentException" :: vx_atS RX10 490 "java/lang/IllegalArgumentException" ["java/lang/RuntimeException", "java/lang/Exception"], vx_ot w = true := by decide +kernel
theorem x_exIS_a : ∀ w ∈ (vx_atS RX10 361 "java/lang/IllegalStateException" ["java/lang/RuntimeException", "java/lang/Exception"]).filter goodWord, w ∈ lw_tbl := by decide +kernel
theorem x_exIS : ∀ w ∈ (vx_atS RX10 361 "java/lang/IllegalStateException" ["java/lang/RuntimeException", "java/lang/Exception"]).filter goodWord, w ∈ lw_big := fun w h => lw_big_of (x_exIS_a w h) (List.mem_filter.mp h).2
theorem x_exIS_b : ∀ w ∈ (vx_atS RX10 361 "java/lang/IllegalStateException" ["java/lang/RuntimeException", "java/lang/Exception"]).filter (fun w => !goodWord w), w ∈ Cond.castable "java/lang/IllegalStateException" "java/lang/IllegalStateException" :: lw_decl.map (fun c => Cond.declares ⟨c, "<init>", "(Ljava/lang/String;)V"⟩) := by decide +kernel
theorem x_exIS_c : ∀ w ∈ Cond.classLink RX10 357 "java/lang/IllegalStateException" :: Cond.initialized "java/lang/IllegalStateException" :: vx_atS RX10 361 "java/lang/IllegalStateException" ["java/lang/RuntimeException", "java/lang/Exception"], vx_ot w = true := by decide +kernel
theorem x_exAr_a : ∀ w ∈ (vx_atS RX10 411 "java/lang/ArithmeticException" ["java/lang/RuntimeException", "java/lang/Exception"]).filter goodWord, w ∈ lw_tbl := by decide +kernel
theorem x_exAr : ∀ w ∈ (vx_atS RX10 411 "java/lang/ArithmeticException" ["java/lang/RuntimeException", "java/lang/Exception"]).filter goodWord, w ∈ lw_big := fun w h => lw_big_of (x_exAr_a w h) (List.mem_filter.mp h).2
theorem x_exAr_b : ∀ w ∈ (vx_atS RX10 411 "java/lang/ArithmeticException" ["java/lang/RuntimeException", "java/lang/Exception"]).filter (fun w => !goodWord w), w ∈ Cond.castable "java/lang/ArithmeticException" "java/lang/ArithmeticException" :: lw_decl.map (fun c => Cond.declares ⟨c, "<init>", "(Ljava/lang/String;)V"⟩) := by decide +kernel
theorem x_exAr_c : ∀ w ∈ Cond.classLink RX10 407 "java/lang/ArithmeticException" :: Cond.initialized "java/lang/ArithmeticException" :: vx_atS RX10 411 "java/lang/ArithmeticException" ["java/lang/RuntimeException", "java/lang/Exception"], vx_ot w = true := by decide +kernel
