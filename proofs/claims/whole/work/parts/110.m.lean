theorem svS_X3_textOf : SS RX3 yX3_textOf cX3_textOf 1 (Option.some (Jvm.ClassFile.FieldType.object RJ0)) 1 := ⟨kw304, kw5, kw305, rfl, by decide, by decide, by decide +kernel⟩
theorem svV_J0_coder_7d493 : SV RJ0 yJ0_coder_7d493 cJ0_coder_7d493 1 (some .byte) 0 := ⟨kw314, kw315, kw14, kw316, rfl, by decide, by decide, by decide +kernel⟩
theorem svV_J0_length_8abf5 : SV RJ0 yJ0_length_8abf5 cJ0_length_8abf5 1 (some .int) 0 := ⟨kw310, kw311, kw14, kw312, rfl, by decide, by decide, by decide +kernel⟩
theorem svV_X3_signAt : SV RX3 yX3_signAt cX3_signAt 2 (some .int) 1 := ⟨kw319, kw1790, kw5, kw320, rfl, by decide, by decide, by decide +kernel⟩
theorem svV_J0_isLatin1_aae02 : SV RJ0 yJ0_isLatin1_aae02 cJ0_isLatin1_aae02 1 (some .boolean) 0 := ⟨kw327, kw328, kw14, kw329, rfl, by decide, by decide, by decide +kernel⟩
theorem svS_J3_checkIndex_8e157 : SS RJ3 yJ3_checkIndex_8e157 cJ3_checkIndex_8e157 3 (some .int) 3 := ⟨kw338, kw18, kw339, rfl, by decide, by decide, by decide +kernel⟩
theorem svS_J0_checkIndex_df160 : SS RJ0 yJ0_checkIndex_df160 cJ0_checkIndex_df160 2 none 2 := ⟨kw334, kw14, kw335, rfl, by decide, by decide, by decide +kernel⟩
theorem svS_J1_charAt_3b067 : SS RJ1 yJ1_charAt_3b067 cJ1_charAt_3b067 2 (some .char) 2 := ⟨kw331, kw17, kw332, rfl, by decide, by decide, by decide +kernel⟩
theorem svV_J0_charAt_5068e : SV RJ0 yJ0_charAt_5068e cJ0_charAt_5068e 2 (some .char) 1 := ⟨kw323, kw324, kw14, kw325, rfl, by decide, by decide, by decide +kernel⟩
theorem svV_X3_alikeWith : SV RX3 yX3_alikeWith cX3_alikeWith 3 (some .int) 1 := ⟨kw307, kw1789, kw5, kw308, rfl, by decide, by decide, by decide +kernel⟩
theorem svS_X3_numbersOf : SS RX3 yX3_numbersOf cX3_numbersOf 1 (some .int) 1 := ⟨kw361, kw5, kw362, rfl, by decide, by decide, by decide +kernel⟩
theorem svS_X3_isDigit : SS RX3 yX3_isDigit cX3_isDigit 1 (some .boolean) 1 := ⟨kw364, kw5, kw365, rfl, by decide, by decide, by decide +kernel⟩
theorem dX3_textOf_0 : decode cX3_textOf 0 = .ok (.iload_n 0, 1) := by decide +kernel
theorem dX3_textOf_1 : decode cX3_textOf 1 = .ok (.tableswitch 64 0 6 #[43, 46, 49, 52, 55, 58, 61], 43) := by decide +kernel
theorem dX3_textOf_44 : decode cX3_textOf 44 = .ok (.ldc 94, 2) := by decide +kernel
theorem dX3_textOf_46 : decode cX3_textOf 46 = .ok (.areturn, 1) := by decide +kernel
theorem dX3_textOf_47 : decode cX3_textOf 47 = .ok (.ldc 96, 2) := by decide +kernel
theorem dX3_textOf_49 : decode cX3_textOf 49 = .ok (.areturn, 1) := by decide +kernel
theorem dX3_textOf_50 : decode cX3_textOf 50 = .ok (.ldc 98, 2) := by decide +kernel
theorem dX3_textOf_52 : decode cX3_textOf 52 = .ok (.areturn, 1) := by decide +kernel
theorem dX3_textOf_53 : decode cX3_textOf 53 = .ok (.ldc 100, 2) := by decide +kernel
theorem dX3_textOf_55 : decode cX3_textOf 55 = .ok (.areturn, 1) := by decide +kernel
theorem dX3_textOf_56 : decode cX3_textOf 56 = .ok (.ldc 102, 2) := by decide +kernel
theorem dX3_textOf_58 : decode cX3_textOf 58 = .ok (.areturn, 1) := by decide +kernel
theorem dX3_textOf_59 : decode cX3_textOf 59 = .ok (.ldc 104, 2) := by decide +kernel
theorem dX3_textOf_61 : decode cX3_textOf 61 = .ok (.areturn, 1) := by decide +kernel
theorem dX3_textOf_62 : decode cX3_textOf 62 = .ok (.ldc 106, 2) := by decide +kernel
theorem dX3_textOf_64 : decode cX3_textOf 64 = .ok (.areturn, 1) := by decide +kernel
theorem dX3_textOf_65 : decode cX3_textOf 65 = .ok (.ldc 108, 2) := by decide +kernel
theorem dX3_textOf_67 : decode cX3_textOf 67 = .ok (.areturn, 1) := by decide +kernel
theorem dJ0_coder_7d493_0 : decode cJ0_coder_7d493 0 = .ok (.getstatic 38, 3) := by decide +kernel
theorem dJ0_coder_7d493_3 : decode cJ0_coder_7d493 3 = .ok (.ifCond .eq 10, 3) := by decide +kernel
theorem dJ0_coder_7d493_6 : decode cJ0_coder_7d493 6 = .ok (.aload_n 0, 1) := by decide +kernel
theorem dJ0_coder_7d493_7 : decode cJ0_coder_7d493 7 = .ok (.getfield 15, 3) := by decide +kernel
theorem dJ0_coder_7d493_10 : decode cJ0_coder_7d493 10 = .ok (.goto 4, 3) := by decide +kernel
theorem dJ0_coder_7d493_14 : decode cJ0_coder_7d493 14 = .ok (.ireturn, 1) := by decide +kernel
theorem dJ0_length_8abf5_0 : decode cJ0_length_8abf5 0 = .ok (.aload_n 0, 1) := by decide +kernel
theorem dJ0_length_8abf5_1 : decode cJ0_length_8abf5 1 = .ok (.getfield 9, 3) := by decide +kernel
theorem dJ0_length_8abf5_4 : decode cJ0_length_8abf5 4 = .ok (.arraylength, 1) := by decide +kernel
theorem dJ0_length_8abf5_5 : decode cJ0_length_8abf5 5 = .ok (.aload_n 0, 1) := by decide +kernel
theorem dJ0_length_8abf5_6 : decode cJ0_length_8abf5 6 = .ok (.invokevirtual 335, 3) := by decide +kernel
theorem dJ0_length_8abf5_9 : decode cJ0_length_8abf5 9 = .ok (.ishr, 1) := by decide +kernel
theorem dJ0_length_8abf5_10 : decode cJ0_length_8abf5 10 = .ok (.ireturn, 1) := by decide +kernel
theorem dX3_signAt_0 : decode cX3_signAt 0 = .ok (.iload_n 1, 1) := by decide +kernel
theorem dX3_signAt_1 : decode cX3_signAt 1 = .ok (.aload_n 0, 1) := by decide +kernel
theorem dX3_signAt_2 : decode cX3_signAt 2 = .ok (.getfield 23, 3) := by decide +kernel
theorem dX3_signAt_5 : decode cX3_signAt 5 = .ok (.if_icmp .ge 14, 3) := by decide +kernel
theorem dX3_signAt_19 : decode cX3_signAt 19 = .ok (.iconst (-1), 1) := by decide +kernel
theorem dX3_signAt_20 : decode cX3_signAt 20 = .ok (.ireturn, 1) := by decide +kernel
theorem dX3_signAt_8 : decode cX3_signAt 8 = .ok (.aload_n 0, 1) := by decide +kernel
theorem dX3_signAt_9 : decode cX3_signAt 9 = .ok (.getfield 14, 3) := by decide +kernel
theorem dX3_signAt_12 : decode cX3_signAt 12 = .ok (.iload_n 1, 1) := by decide +kernel
theorem dX3_signAt_13 : decode cX3_signAt 13 = .ok (.invokevirtual 37, 3) := by decide +kernel
theorem dX3_signAt_16 : decode cX3_signAt 16 = .ok (.goto 4, 3) := by decide +kernel
theorem dJ0_isLatin1_aae02_0 : decode cJ0_isLatin1_aae02 0 = .ok (.getstatic 38, 3) := by decide +kernel
theorem dJ0_isLatin1_aae02_3 : decode cJ0_isLatin1_aae02 3 = .ok (.ifCond .eq 14, 3) := by decide +kernel
theorem dJ0_isLatin1_aae02_6 : decode cJ0_isLatin1_aae02 6 = .ok (.aload_n 0, 1) := by decide +kernel
theorem dJ0_isLatin1_aae02_7 : decode cJ0_isLatin1_aae02 7 = .ok (.getfield 15, 3) := by decide +kernel
theorem dJ0_isLatin1_aae02_10 : decode cJ0_isLatin1_aae02 10 = .ok (.ifCond .ne 7, 3) := by decide +kernel
theorem dJ0_isLatin1_aae02_13 : decode cJ0_isLatin1_aae02 13 = .ok (.iconst 1, 1) := by decide +kernel
theorem dJ0_isLatin1_aae02_14 : decode cJ0_isLatin1_aae02 14 = .ok (.goto 4, 3) := by decide +kernel
theorem dJ0_isLatin1_aae02_18 : decode cJ0_isLatin1_aae02 18 = .ok (.ireturn, 1) := by decide +kernel
theorem dJ3_checkIndex_8e157_0 : decode cJ3_checkIndex_8e157 0 = .ok (.iload_n 0, 1) := by decide +kernel
theorem dJ3_checkIndex_8e157_1 : decode cJ3_checkIndex_8e157 1 = .ok (.ifCond .lt 8, 3) := by decide +kernel
theorem dJ3_checkIndex_8e157_4 : decode cJ3_checkIndex_8e157 4 = .ok (.iload_n 0, 1) := by decide +kernel
theorem dJ3_checkIndex_8e157_5 : decode cJ3_checkIndex_8e157 5 = .ok (.iload_n 1, 1) := by decide +kernel
theorem dJ3_checkIndex_8e157_6 : decode cJ3_checkIndex_8e157 6 = .ok (.if_icmp .lt 10, 3) := by decide +kernel
theorem dJ3_checkIndex_8e157_16 : decode cJ3_checkIndex_8e157 16 = .ok (.iload_n 0, 1) := by decide +kernel
theorem dJ3_checkIndex_8e157_17 : decode cJ3_checkIndex_8e157 17 = .ok (.ireturn, 1) := by decide +kernel
theorem dJ0_checkIndex_df160_0 : decode cJ0_checkIndex_df160 0 = .ok (.iload_n 0, 1) := by decide +kernel
theorem dJ0_checkIndex_df160_1 : decode cJ0_checkIndex_df160 1 = .ok (.iload_n 1, 1) := by decide +kernel
theorem dJ0_checkIndex_df160_2 : decode cJ0_checkIndex_df160 2 = .ok (.getstatic 1053, 3) := by decide +kernel
theorem dJ0_checkIndex_df160_5 : decode cJ0_checkIndex_df160 5 = .ok (.invokestatic 1059, 3) := by decide +kernel
theorem dJ0_checkIndex_df160_8 : decode cJ0_checkIndex_df160 8 = .ok (.pop, 1) := by decide +kernel
theorem dJ0_checkIndex_df160_9 : decode cJ0_checkIndex_df160 9 = .ok (.return_, 1) := by decide +kernel
theorem dJ1_charAt_3b067_0 : decode cJ1_charAt_3b067 0 = .ok (.iload_n 1, 1) := by decide +kernel
theorem dJ1_charAt_3b067_1 : decode cJ1_charAt_3b067 1 = .ok (.aload_n 0, 1) := by decide +kernel
theorem dJ1_charAt_3b067_2 : decode cJ1_charAt_3b067 2 = .ok (.arraylength, 1) := by decide +kernel
theorem dJ1_charAt_3b067_3 : decode cJ1_charAt_3b067 3 = .ok (.invokestatic 9, 3) := by decide +kernel
theorem dJ1_charAt_3b067_6 : decode cJ1_charAt_3b067 6 = .ok (.aload_n 0, 1) := by decide +kernel
theorem dJ1_charAt_3b067_7 : decode cJ1_charAt_3b067 7 = .ok (.iload_n 1, 1) := by decide +kernel
theorem dJ1_charAt_3b067_8 : decode cJ1_charAt_3b067 8 = .ok (.baload, 1) := by decide +kernel
theorem dJ1_charAt_3b067_9 : decode cJ1_charAt_3b067 9 = .ok (.sipush 255, 3) := by decide +kernel
theorem dJ1_charAt_3b067_12 : decode cJ1_charAt_3b067 12 = .ok (.iand, 1) := by decide +kernel
theorem dJ1_charAt_3b067_13 : decode cJ1_charAt_3b067 13 = .ok (.i2c, 1) := by decide +kernel
theorem dJ1_charAt_3b067_14 : decode cJ1_charAt_3b067 14 = .ok (.ireturn, 1) := by decide +kernel
theorem dJ0_charAt_5068e_0 : decode cJ0_charAt_5068e 0 = .ok (.aload_n 0, 1) := by decide +kernel
theorem dJ0_charAt_5068e_1 : decode cJ0_charAt_5068e 1 = .ok (.invokevirtual 492, 3) := by decide +kernel
theorem dJ0_charAt_5068e_4 : decode cJ0_charAt_5068e 4 = .ok (.ifCond .eq 12, 3) := by decide +kernel
theorem dJ0_charAt_5068e_7 : decode cJ0_charAt_5068e 7 = .ok (.aload_n 0, 1) := by decide +kernel
theorem dJ0_charAt_5068e_8 : decode cJ0_charAt_5068e 8 = .ok (.getfield 9, 3) := by decide +kernel
theorem dJ0_charAt_5068e_11 : decode cJ0_charAt_5068e 11 = .ok (.iload_n 1, 1) := by decide +kernel
theorem dJ0_charAt_5068e_12 : decode cJ0_charAt_5068e 12 = .ok (.invokestatic 495, 3) := by decide +kernel
theorem dJ0_charAt_5068e_15 : decode cJ0_charAt_5068e 15 = .ok (.ireturn, 1) := by decide +kernel
theorem dX3_alikeWith_0 : decode cX3_alikeWith 0 = .ok (.iconst 0, 1) := by decide +kernel
theorem dX3_alikeWith_1 : decode cX3_alikeWith 1 = .ok (.istore_n 2, 1) := by decide +kernel
theorem dX3_alikeWith_2 : decode cX3_alikeWith 2 = .ok (.iload_n 2, 1) := by decide +kernel
theorem dX3_alikeWith_3 : decode cX3_alikeWith 3 = .ok (.aload_n 1, 1) := by decide +kernel
theorem dX3_alikeWith_4 : decode cX3_alikeWith 4 = .ok (.invokevirtual 68, 3) := by decide +kernel
theorem dX3_alikeWith_7 : decode cX3_alikeWith 7 = .ok (.if_icmp .ge 27, 3) := by decide +kernel
theorem dX3_alikeWith_10 : decode cX3_alikeWith 10 = .ok (.aload_n 0, 1) := by decide +kernel
theorem dX3_alikeWith_11 : decode cX3_alikeWith 11 = .ok (.aload_n 0, 1) := by decide +kernel
theorem dX3_alikeWith_12 : decode cX3_alikeWith 12 = .ok (.getfield 31, 3) := by decide +kernel
theorem dX3_alikeWith_15 : decode cX3_alikeWith 15 = .ok (.iload_n 2, 1) := by decide +kernel
theorem dX3_alikeWith_16 : decode cX3_alikeWith 16 = .ok (.iadd, 1) := by decide +kernel
theorem dX3_alikeWith_17 : decode cX3_alikeWith 17 = .ok (.invokevirtual 80, 3) := by decide +kernel
theorem dX3_alikeWith_20 : decode cX3_alikeWith 20 = .ok (.aload_n 1, 1) := by decide +kernel
theorem dX3_alikeWith_21 : decode cX3_alikeWith 21 = .ok (.iload_n 2, 1) := by decide +kernel
theorem dX3_alikeWith_22 : decode cX3_alikeWith 22 = .ok (.invokevirtual 83, 3) := by decide +kernel
theorem dX3_alikeWith_25 : decode cX3_alikeWith 25 = .ok (.if_icmp .ne 9, 3) := by decide +kernel
theorem dX3_alikeWith_28 : decode cX3_alikeWith 28 = .ok (.iinc 2 1, 3) := by decide +kernel
theorem dX3_alikeWith_31 : decode cX3_alikeWith 31 = .ok (.goto (-29), 3) := by decide +kernel
theorem dX3_alikeWith_34 : decode cX3_alikeWith 34 = .ok (.iload_n 2, 1) := by decide +kernel
theorem dX3_alikeWith_35 : decode cX3_alikeWith 35 = .ok (.ireturn, 1) := by decide +kernel
theorem dX3_readWord_0 : decode cX3_readWord 0 = .ok (.iconst 0, 1) := by decide +kernel
theorem dX3_readWord_1 : decode cX3_readWord 1 = .ok (.istore_n 1, 1) := by decide +kernel
theorem dX3_readWord_2 : decode cX3_readWord 2 = .ok (.iconst 0, 1) := by decide +kernel
theorem dX3_readWord_3 : decode cX3_readWord 3 = .ok (.istore_n 2, 1) := by decide +kernel
theorem dX3_readWord_4 : decode cX3_readWord 4 = .ok (.iload_n 2, 1) := by decide +kernel
theorem dX3_readWord_5 : decode cX3_readWord 5 = .ok (.bipush 8, 2) := by decide +kernel
theorem dX3_readWord_7 : decode cX3_readWord 7 = .ok (.if_icmp .ge 52, 3) := by decide +kernel
theorem dX3_readWord_10 : decode cX3_readWord 10 = .ok (.aload_n 0, 1) := by decide +kernel
theorem dX3_readWord_11 : decode cX3_readWord 11 = .ok (.iload_n 2, 1) := by decide +kernel
theorem dX3_readWord_12 : decode cX3_readWord 12 = .ok (.invokestatic 60, 3) := by decide +kernel
theorem dX3_readWord_15 : decode cX3_readWord 15 = .ok (.invokevirtual 64, 3) := by decide +kernel
theorem dX3_readWord_18 : decode cX3_readWord 18 = .ok (.istore_n 3, 1) := by decide +kernel
theorem dX3_readWord_19 : decode cX3_readWord 19 = .ok (.iload_n 3, 1) := by decide +kernel
theorem dX3_readWord_20 : decode cX3_readWord 20 = .ok (.iload_n 2, 1) := by decide +kernel
theorem dX3_readWord_21 : decode cX3_readWord 21 = .ok (.invokestatic 60, 3) := by decide +kernel
theorem dX3_readWord_24 : decode cX3_readWord 24 = .ok (.invokevirtual 68, 3) := by decide +kernel
theorem dX3_readWord_27 : decode cX3_readWord 27 = .ok (.if_icmp .ne 20, 3) := by decide +kernel
theorem dX3_readWord_47 : decode cX3_readWord 47 = .ok (.iload_n 1, 1) := by decide +kernel
theorem dX3_readWord_48 : decode cX3_readWord 48 = .ok (.iload_n 3, 1) := by decide +kernel
theorem dX3_readWord_49 : decode cX3_readWord 49 = .ok (.invokestatic 74, 3) := by decide +kernel
theorem dX3_readWord_52 : decode cX3_readWord 52 = .ok (.istore_n 1, 1) := by decide +kernel
theorem dX3_readWord_53 : decode cX3_readWord 53 = .ok (.iinc 2 1, 3) := by decide +kernel
theorem dX3_readWord_56 : decode cX3_readWord 56 = .ok (.goto (-52), 3) := by decide +kernel
theorem dX3_readWord_30 : decode cX3_readWord 30 = .ok (.aload_n 0, 1) := by decide +kernel
theorem dX3_readWord_31 : decode cX3_readWord 31 = .ok (.iload_n 2, 1) := by decide +kernel
theorem dX3_readWord_32 : decode cX3_readWord 32 = .ok (.putfield 34, 3) := by decide +kernel
theorem dX3_readWord_35 : decode cX3_readWord 35 = .ok (.aload_n 0, 1) := by decide +kernel
theorem dX3_readWord_36 : decode cX3_readWord 36 = .ok (.dup, 1) := by decide +kernel
theorem dX3_readWord_37 : decode cX3_readWord 37 = .ok (.getfield 31, 3) := by decide +kernel
theorem dX3_readWord_40 : decode cX3_readWord 40 = .ok (.iload_n 3, 1) := by decide +kernel
theorem dX3_readWord_41 : decode cX3_readWord 41 = .ok (.iadd, 1) := by decide +kernel
theorem dX3_readWord_42 : decode cX3_readWord 42 = .ok (.putfield 31, 3) := by decide +kernel
theorem dX3_readWord_45 : decode cX3_readWord 45 = .ok (.iconst 1, 1) := by decide +kernel
theorem dX3_readWord_46 : decode cX3_readWord 46 = .ok (.ireturn, 1) := by decide +kernel
theorem dX3_readWord_59 : decode cX3_readWord 59 = .ok (.aload_n 0, 1) := by decide +kernel
theorem dX3_readWord_60 : decode cX3_readWord 60 = .ok (.dup, 1) := by decide +kernel
theorem dX3_readWord_61 : decode cX3_readWord 61 = .ok (.getfield 31, 3) := by decide +kernel
theorem dX3_readWord_64 : decode cX3_readWord 64 = .ok (.iload_n 1, 1) := by decide +kernel
theorem dX3_readWord_65 : decode cX3_readWord 65 = .ok (.iadd, 1) := by decide +kernel
theorem dX3_readWord_66 : decode cX3_readWord 66 = .ok (.putfield 31, 3) := by decide +kernel
theorem dX3_readWord_69 : decode cX3_readWord 69 = .ok (.iconst 0, 1) := by decide +kernel
theorem dX3_readWord_70 : decode cX3_readWord 70 = .ok (.ireturn, 1) := by decide +kernel
theorem dX3_numbersOf_0 : decode cX3_numbersOf 0 = .ok (.iload_n 0, 1) := by decide +kernel
theorem dX3_numbersOf_1 : decode cX3_numbersOf 1 = .ok (.tableswitch 35 1 4 #[31, 33, 33, 33], 31) := by decide +kernel
theorem dX3_numbersOf_32 : decode cX3_numbersOf 32 = .ok (.iconst 3, 1) := by decide +kernel
theorem dX3_numbersOf_33 : decode cX3_numbersOf 33 = .ok (.ireturn, 1) := by decide +kernel
theorem dX3_numbersOf_34 : decode cX3_numbersOf 34 = .ok (.iconst 2, 1) := by decide +kernel
theorem dX3_numbersOf_35 : decode cX3_numbersOf 35 = .ok (.ireturn, 1) := by decide +kernel
theorem dX3_numbersOf_36 : decode cX3_numbersOf 36 = .ok (.iconst 1, 1) := by decide +kernel
theorem dX3_numbersOf_37 : decode cX3_numbersOf 37 = .ok (.ireturn, 1) := by decide +kernel
theorem dX3_isDigit_0 : decode cX3_isDigit 0 = .ok (.iload_n 0, 1) := by decide +kernel
theorem dX3_isDigit_1 : decode cX3_isDigit 1 = .ok (.bipush 48, 2) := by decide +kernel
theorem dX3_isDigit_3 : decode cX3_isDigit 3 = .ok (.if_icmp .lt 13, 3) := by decide +kernel
theorem dX3_isDigit_16 : decode cX3_isDigit 16 = .ok (.iconst 0, 1) := by decide +kernel
theorem dX3_isDigit_17 : decode cX3_isDigit 17 = .ok (.ireturn, 1) := by decide +kernel
theorem dX3_isDigit_6 : decode cX3_isDigit 6 = .ok (.iload_n 0, 1) := by decide +kernel
theorem dX3_isDigit_7 : decode cX3_isDigit 7 = .ok (.bipush 57, 2) := by decide +kernel
theorem dX3_isDigit_9 : decode cX3_isDigit 9 = .ok (.if_icmp .gt 7, 3) := by decide +kernel
theorem dX3_isDigit_12 : decode cX3_isDigit 12 = .ok (.iconst 1, 1) := by decide +kernel
theorem dX3_isDigit_13 : decode cX3_isDigit 13 = .ok (.goto 4, 3) := by decide +kernel
theorem dX3_readNumbers_0 : decode cX3_readNumbers 0 = .ok (.iconst 0, 1) := by decide +kernel
theorem dX3_readNumbers_1 : decode cX3_readNumbers 1 = .ok (.istore_n 1, 1) := by decide +kernel
theorem dX3_readNumbers_2 : decode cX3_readNumbers 2 = .ok (.iload_n 1, 1) := by decide +kernel
theorem dX3_readNumbers_3 : decode cX3_readNumbers 3 = .ok (.aload_n 0, 1) := by decide +kernel
theorem dX3_readNumbers_4 : decode cX3_readNumbers 4 = .ok (.getfield 34, 3) := by decide +kernel
theorem dX3_readNumbers_7 : decode cX3_readNumbers 7 = .ok (.invokestatic 87, 3) := by decide +kernel
theorem dX3_readNumbers_10 : decode cX3_readNumbers 10 = .ok (.if_icmp .ge 122, 3) := by decide +kernel
theorem dX3_readNumbers_13 : decode cX3_readNumbers 13 = .ok (.aload_n 0, 1) := by decide +kernel
theorem dX3_readNumbers_14 : decode cX3_readNumbers 14 = .ok (.aload_n 0, 1) := by decide +kernel
theorem dX3_readNumbers_15 : decode cX3_readNumbers 15 = .ok (.getfield 31, 3) := by decide +kernel
theorem dX3_readNumbers_18 : decode cX3_readNumbers 18 = .ok (.invokevirtual 80, 3) := by decide +kernel
theorem dX3_readNumbers_21 : decode cX3_readNumbers 21 = .ok (.bipush 32, 2) := by decide +kernel
theorem dX3_readNumbers_23 : decode cX3_readNumbers 23 = .ok (.if_icmp .eq 5, 3) := by decide +kernel
theorem dX3_readNumbers_28 : decode cX3_readNumbers 28 = .ok (.aload_n 0, 1) := by decide +kernel
theorem dX3_readNumbers_29 : decode cX3_readNumbers 29 = .ok (.dup, 1) := by decide +kernel
theorem dX3_readNumbers_30 : decode cX3_readNumbers 30 = .ok (.getfield 31, 3) := by decide +kernel
theorem dX3_readNumbers_33 : decode cX3_readNumbers 33 = .ok (.iconst 1, 1) := by decide +kernel
theorem dX3_readNumbers_34 : decode cX3_readNumbers 34 = .ok (.iadd, 1) := by decide +kernel
theorem dX3_readNumbers_35 : decode cX3_readNumbers 35 = .ok (.putfield 31, 3) := by decide +kernel
theorem dX3_readNumbers_38 : decode cX3_readNumbers 38 = .ok (.aload_n 0, 1) := by decide +kernel
theorem dX3_readNumbers_39 : decode cX3_readNumbers 39 = .ok (.aload_n 0, 1) := by decide +kernel
theorem dX3_readNumbers_40 : decode cX3_readNumbers 40 = .ok (.getfield 31, 3) := by decide +kernel
theorem dX3_readNumbers_43 : decode cX3_readNumbers 43 = .ok (.invokevirtual 80, 3) := by decide +kernel
theorem dX3_readNumbers_46 : decode cX3_readNumbers 46 = .ok (.invokestatic 90, 3) := by decide +kernel
theorem dX3_readNumbers_49 : decode cX3_readNumbers 49 = .ok (.ifCond .ne 5, 3) := by decide +kernel
theorem dX3_readNumbers_54 : decode cX3_readNumbers 54 = .ok (.aload_n 0, 1) := by decide +kernel
theorem dX3_readNumbers_55 : decode cX3_readNumbers 55 = .ok (.aload_n 0, 1) := by decide +kernel
theorem dX3_readNumbers_56 : decode cX3_readNumbers 56 = .ok (.getfield 31, 3) := by decide +kernel
theorem dX3_readNumbers_59 : decode cX3_readNumbers 59 = .ok (.invokevirtual 80, 3) := by decide +kernel
theorem dX3_readNumbers_62 : decode cX3_readNumbers 62 = .ok (.bipush 48, 2) := by decide +kernel
theorem dX3_readNumbers_64 : decode cX3_readNumbers 64 = .ok (.isub, 1) := by decide +kernel
theorem dX3_readNumbers_65 : decode cX3_readNumbers 65 = .ok (.istore_n 2, 1) := by decide +kernel
theorem dX3_readNumbers_66 : decode cX3_readNumbers 66 = .ok (.aload_n 0, 1) := by decide +kernel
theorem dX3_readNumbers_67 : decode cX3_readNumbers 67 = .ok (.dup, 1) := by decide +kernel
theorem dX3_readNumbers_68 : decode cX3_readNumbers 68 = .ok (.getfield 31, 3) := by decide +kernel
theorem dX3_readNumbers_71 : decode cX3_readNumbers 71 = .ok (.iconst 1, 1) := by decide +kernel
theorem dX3_readNumbers_72 : decode cX3_readNumbers 72 = .ok (.iadd, 1) := by decide +kernel
theorem dX3_readNumbers_73 : decode cX3_readNumbers 73 = .ok (.putfield 31, 3) := by decide +kernel
theorem dX3_readNumbers_76 : decode cX3_readNumbers 76 = .ok (.aload_n 0, 1) := by decide +kernel
theorem dX3_readNumbers_77 : decode cX3_readNumbers 77 = .ok (.aload_n 0, 1) := by decide +kernel
theorem dX3_readNumbers_78 : decode cX3_readNumbers 78 = .ok (.getfield 31, 3) := by decide +kernel
theorem dX3_readNumbers_81 : decode cX3_readNumbers 81 = .ok (.invokevirtual 80, 3) := by decide +kernel
theorem dX3_readNumbers_84 : decode cX3_readNumbers 84 = .ok (.invokestatic 90, 3) := by decide +kernel
theorem dX3_readNumbers_117 : decode cX3_readNumbers 117 = .ok (.aload_n 0, 1) := by decide +kernel
theorem dX3_readNumbers_118 : decode cX3_readNumbers 118 = .ok (.getfield 20, 3) := by decide +kernel
theorem dX3_readNumbers_121 : decode cX3_readNumbers 121 = .ok (.iload_n 1, 1) := by decide +kernel
theorem dX3_readNumbers_122 : decode cX3_readNumbers 122 = .ok (.iload_n 2, 1) := by decide +kernel
theorem dX3_readNumbers_123 : decode cX3_readNumbers 123 = .ok (.invokevirtual 27, 3) := by decide +kernel
theorem dX3_readNumbers_126 : decode cX3_readNumbers 126 = .ok (.iinc 1 1, 3) := by decide +kernel
theorem dX3_readNumbers_129 : decode cX3_readNumbers 129 = .ok (.goto (-127), 3) := by decide +kernel
theorem dX3_readNumbers_87 : decode cX3_readNumbers 87 = .ok (.ifCond .eq 30, 3) := by decide +kernel
theorem dX3_readNumbers_90 : decode cX3_readNumbers 90 = .ok (.bipush 10, 2) := by decide +kernel
theorem dX3_readNumbers_92 : decode cX3_readNumbers 92 = .ok (.iload_n 2, 1) := by decide +kernel
theorem dX3_readNumbers_93 : decode cX3_readNumbers 93 = .ok (.imul, 1) := by decide +kernel
theorem dX3_readNumbers_94 : decode cX3_readNumbers 94 = .ok (.aload_n 0, 1) := by decide +kernel
theorem dX3_readNumbers_95 : decode cX3_readNumbers 95 = .ok (.aload_n 0, 1) := by decide +kernel
theorem dX3_readNumbers_96 : decode cX3_readNumbers 96 = .ok (.getfield 31, 3) := by decide +kernel
theorem dX3_readNumbers_99 : decode cX3_readNumbers 99 = .ok (.invokevirtual 80, 3) := by decide +kernel
theorem dX3_readNumbers_102 : decode cX3_readNumbers 102 = .ok (.iadd, 1) := by decide +kernel
theorem dX3_readNumbers_103 : decode cX3_readNumbers 103 = .ok (.bipush 48, 2) := by decide +kernel
theorem dX3_readNumbers_105 : decode cX3_readNumbers 105 = .ok (.isub, 1) := by decide +kernel
theorem dX3_readNumbers_106 : decode cX3_readNumbers 106 = .ok (.istore_n 2, 1) := by decide +kernel
theorem dX3_readNumbers_107 : decode cX3_readNumbers 107 = .ok (.aload_n 0, 1) := by decide +kernel
theorem dX3_readNumbers_108 : decode cX3_readNumbers 108 = .ok (.dup, 1) := by decide +kernel
theorem dX3_readNumbers_109 : decode cX3_readNumbers 109 = .ok (.getfield 31, 3) := by decide +kernel
theorem dX3_readNumbers_112 : decode cX3_readNumbers 112 = .ok (.iconst 1, 1) := by decide +kernel
theorem dX3_readNumbers_113 : decode cX3_readNumbers 113 = .ok (.iadd, 1) := by decide +kernel
theorem dX3_readNumbers_114 : decode cX3_readNumbers 114 = .ok (.putfield 31, 3) := by decide +kernel
theorem dX3_readNumbers_26 : decode cX3_readNumbers 26 = .ok (.iconst 0, 1) := by decide +kernel
theorem dX3_readNumbers_27 : decode cX3_readNumbers 27 = .ok (.ireturn, 1) := by decide +kernel
theorem dX3_readNumbers_52 : decode cX3_readNumbers 52 = .ok (.iconst 0, 1) := by decide +kernel
theorem dX3_readNumbers_53 : decode cX3_readNumbers 53 = .ok (.ireturn, 1) := by decide +kernel
theorem dX3_readNumbers_132 : decode cX3_readNumbers 132 = .ok (.iconst 1, 1) := by decide +kernel
theorem dX3_readNumbers_133 : decode cX3_readNumbers 133 = .ok (.ireturn, 1) := by decide +kernel
set_option maxHeartbeats 4000000 in
set_option maxRecDepth 100000 in
theorem c_X3_textOf (l : Launch) (g : GG) (p0 : Int32) (hne : (m_X3_textOf p0) ≠ none) : Ct l g yX3_textOf cX3_textOf 1 (Option.some (Jvm.ClassFile.FieldType.object RJ0)) ({ frames := 0, cells := 0, slots := 0, locals := 0 } : Room) [.int p0] (([] : va_W)) (Qr g (m_X3_textOf p0) (fun u => adK g u) (fun u => ([] : va_W))) 0 0 := by
  obtain ⟨out, hf⟩ := ne_ex hne
  have hf0 := hf
  refine Ct.of (own := RX3) (by decide +kernel) rfl (Nat.le_of_ble_eq_true rfl) ?_
  intro p e s m below meth c hx hb hr hml hown hts hlocks hin hK A H locs hA hP hD hS hE ls hl
  have hl : lv_has ls 1 [(0, .int p0)] := hl
  unfold m_X3_textOf at hf
  refine lv_iload_n hx hb dX3_textOf_0 rfl (lv_at hl 0 rfl) ?_
  by_cases c0 : p0 = (0 : Int32)
  · have hf := it_t c0 hf
    refine lv_tableIn (off := 43) (tgt := 44) hx hb dX3_textOf_1 (by rw [c0]; decide) (by rw [c0]; decide) (by rw [c0]; rfl) (by decide) ?_
    refine lc_S (q := adK g (0 : Nat)) hx hb hown (stR2 hK) dX3_textOf_44 ?_
    exact retR (u := (0 : Nat)) (ad := fun u => adK g u) (W1 := fun u => ([] : va_W)) hx hb hr (Or.inl ⟨_, rfl⟩) hlocks hS hP hD (hf0.trans hf.symm) rfl dX3_textOf_46
  have hf := it_f c0 hf
  by_cases c1 : p0 = (1 : Int32)
  · have hf := it_t c1 hf
    refine lv_tableIn (off := 46) (tgt := 47) hx hb dX3_textOf_1 (by rw [c1]; decide) (by rw [c1]; decide) (by rw [c1]; rfl) (by decide) ?_
    refine lc_S (q := adK g (1 : Nat)) hx hb hown (stR3 hK) dX3_textOf_47 ?_
    exact retR (u := (1 : Nat)) (ad := fun u => adK g u) (W1 := fun u => ([] : va_W)) hx hb hr (Or.inl ⟨_, rfl⟩) hlocks hS hP hD (hf0.trans hf.symm) rfl dX3_textOf_49
  have hf := it_f c1 hf
  by_cases c2 : p0 = (2 : Int32)
  · have hf := it_t c2 hf
    refine lv_tableIn (off := 49) (tgt := 50) hx hb dX3_textOf_1 (by rw [c2]; decide) (by rw [c2]; decide) (by rw [c2]; rfl) (by decide) ?_
    refine lc_S (q := adK g (2 : Nat)) hx hb hown (stR4 hK) dX3_textOf_50 ?_
    exact retR (u := (2 : Nat)) (ad := fun u => adK g u) (W1 := fun u => ([] : va_W)) hx hb hr (Or.inl ⟨_, rfl⟩) hlocks hS hP hD (hf0.trans hf.symm) rfl dX3_textOf_52
  have hf := it_f c2 hf
  by_cases c3 : p0 = (3 : Int32)
  · have hf := it_t c3 hf
    refine lv_tableIn (off := 52) (tgt := 53) hx hb dX3_textOf_1 (by rw [c3]; decide) (by rw [c3]; decide) (by rw [c3]; rfl) (by decide) ?_
    refine lc_S (q := adK g (3 : Nat)) hx hb hown (stR5 hK) dX3_textOf_53 ?_
    exact retR (u := (3 : Nat)) (ad := fun u => adK g u) (W1 := fun u => ([] : va_W)) hx hb hr (Or.inl ⟨_, rfl⟩) hlocks hS hP hD (hf0.trans hf.symm) rfl dX3_textOf_55
  have hf := it_f c3 hf
  by_cases c4 : p0 = (4 : Int32)
  · have hf := it_t c4 hf
    refine lv_tableIn (off := 55) (tgt := 56) hx hb dX3_textOf_1 (by rw [c4]; decide) (by rw [c4]; decide) (by rw [c4]; rfl) (by decide) ?_
    refine lc_S (q := adK g (4 : Nat)) hx hb hown (stR6 hK) dX3_textOf_56 ?_
    exact retR (u := (4 : Nat)) (ad := fun u => adK g u) (W1 := fun u => ([] : va_W)) hx hb hr (Or.inl ⟨_, rfl⟩) hlocks hS hP hD (hf0.trans hf.symm) rfl dX3_textOf_58
  have hf := it_f c4 hf
  by_cases c5 : p0 = (5 : Int32)
  · have hf := it_t c5 hf
    refine lv_tableIn (off := 58) (tgt := 59) hx hb dX3_textOf_1 (by rw [c5]; decide) (by rw [c5]; decide) (by rw [c5]; rfl) (by decide) ?_
    refine lc_S (q := adK g (5 : Nat)) hx hb hown (stR7 hK) dX3_textOf_59 ?_
    exact retR (u := (5 : Nat)) (ad := fun u => adK g u) (W1 := fun u => ([] : va_W)) hx hb hr (Or.inl ⟨_, rfl⟩) hlocks hS hP hD (hf0.trans hf.symm) rfl dX3_textOf_61
  have hf := it_f c5 hf
  by_cases c6 : p0 = (6 : Int32)
  · have hf := it_t c6 hf
    refine lv_tableIn (off := 61) (tgt := 62) hx hb dX3_textOf_1 (by rw [c6]; decide) (by rw [c6]; decide) (by rw [c6]; rfl) (by decide) ?_
    refine lc_S (q := adK g (6 : Nat)) hx hb hown (stR8 hK) dX3_textOf_62 ?_
    exact retR (u := (6 : Nat)) (ad := fun u => adK g u) (W1 := fun u => ([] : va_W)) hx hb hr (Or.inl ⟨_, rfl⟩) hlocks hS hP hD (hf0.trans hf.symm) rfl dX3_textOf_64
  have hf := it_f c6 hf
  refine lv_tableOut (tgt := 65) hx hb dX3_textOf_1 (by have q0 := lv_neT c0 (a := 0) rfl; have q1 := lv_neT c1 (a := 1) rfl; have q2 := lv_neT c2 (a := 2) rfl; have q3 := lv_neT c3 (a := 3) rfl; have q4 := lv_neT c4 (a := 4) rfl; have q5 := lv_neT c5 (a := 5) rfl; have q6 := lv_neT c6 (a := 6) rfl; omega) (by decide) ?_
  refine lc_S (q := adK g (7 : Nat)) hx hb hown (stR9 hK) dX3_textOf_65 ?_
  exact retR (u := (7 : Nat)) (ad := fun u => adK g u) (W1 := fun u => ([] : va_W)) hx hb hr (Or.inl ⟨_, rfl⟩) hlocks hS hP hD (hf0.trans hf.symm) rfl dX3_textOf_67
set_option maxHeartbeats 4000000 in
set_option maxRecDepth 100000 in
theorem c_J0_coder_7d493 (l : Launch) (g : GG) (t0 : Nat) (hne : (m_J0_coder_7d493 t0) ≠ none) : Ct l g yJ0_coder_7d493 cJ0_coder_7d493 1 (some .byte) ({ frames := 0, cells := 0, slots := 0, locals := 0 } : Room) [.ref (adK g t0)] (([] : va_W)) (Qi g .byte (m_J0_coder_7d493 t0) (fun u => u) (fun u => ([] : va_W))) 0 0 := by
  obtain ⟨out, hf⟩ := ne_ex hne
  have hf0 := hf
  refine Ct.of (own := RJ0) (by decide +kernel) rfl (Nat.le_of_ble_eq_true rfl) ?_
  intro p e s m below meth c hx hb hr hml hown hts hlocks hin hK A H locs hA hP hD hS hE ls hl
  have hl : lv_has ls 1 [(0, .ref (adK g t0))] := hl
  unfold m_J0_coder_7d493 at hf
  have hT := it_n hf
  have hf := it_t hT hf
  refine va_gets hx hb hE.2.1 hS hown (hts _ kw317) (fun _ h9 => h9) dJ0_coder_7d493_0 ?_
  refine lv_if_eq (tgt := 13) hx hb dJ0_coder_7d493_3 (by decide) (fun cb => ?_) (fun cb => ?_)
  · have hf := it_t cb hf
    cases hf
  have hf := it_f cb hf
  refine lv_aload_n hx hb dJ0_coder_7d493_6 rfl (lv_at hl 0 rfl) ?_
  refine vk_getf hx hb (hE.1.1 _ hT).2.1 hS hown (hts _ kw1786) (fun _ h9 => h9) dJ0_coder_7d493_7 ?_
  refine lv_goto (tgt := 14) hx hb dJ0_coder_7d493_10 (by decide) ?_
  exact retI (v := (0 : Int32)) (u := (0 : Int32)) (val := fun u => u) (W1 := fun u => ([] : va_W)) hx hb hr hlocks hS hP hD (hf0.trans hf.symm) rfl rfl dJ0_coder_7d493_14
set_option maxHeartbeats 4000000 in
set_option maxRecDepth 100000 in
theorem c_J0_length_8abf5 (l : Launch) (g : GG) (t0 : Nat) (hne : (m_J0_length_8abf5 t0) ≠ none) : Ct l g yJ0_length_8abf5 cJ0_length_8abf5 1 (some .int) ({ frames := 1, cells := 0, slots := 0, locals := 20 } : Room) [.ref (adK g t0)] (([] : va_W)) (Qi g .int (m_J0_length_8abf5 t0) (fun u => u) (fun u => ([] : va_W))) 0 0 := by
  obtain ⟨out, hf⟩ := ne_ex hne
  have hf0 := hf
  refine Ct.of (own := RJ0) (by decide +kernel) rfl (Nat.le_of_ble_eq_true rfl) ?_
  intro p e s m below meth c hx hb hr hml hown hts hlocks hin hK A H locs hA hP hD hS hE ls hl
  have hl : lv_has ls 1 [(0, .ref (adK g t0))] := hl
  unfold m_J0_length_8abf5 at hf
  have hT := it_n hf
  have hf := it_t hT hf
  refine lv_aload_n hx hb dJ0_length_8abf5_0 rfl (lv_at hl 0 rfl) ?_
  refine vk_getf hx hb (hE.1.1 _ hT).2.2.1 hS hown (hts _ kw1785) (fun _ h9 => h9) dJ0_length_8abf5_1 ?_
  refine va_tlen (v := (nI (lenS.getD t0 0))) hx hb (hE.1.1 _ hT).2.2.2 hS rfl dJ0_length_8abf5_4 ?_
  refine lv_aload_n hx hb dJ0_length_8abf5_5 rfl (lv_at hl 0 rfl) ?_
  have hT9 := it_n hf
  have hf := it_t hT9 hf
  refine cIp hP hD hS hA hE (fun hPc hDc hSc => rVs (As := []) (rest := [.int (nI (lenS.getD t0 0))]) hx hb hml hown hts hK (c_J0_coder_7d493 l g t0 (bnd_ne hf)) svV_J0_coder_7d493 kw313 hE hS hT9 hPc hDc hSc rfl rfl hl.1 (Nat.le_of_ble_eq_true rfl) dJ0_length_8abf5_6 ⟨Nat.le_of_ble_eq_true rfl, Nat.le_of_ble_eq_true rfl, rfl, rfl, Nat.le_of_ble_eq_true rfl, Nat.le_of_ble_eq_true rfl⟩) [] rfl rfl rfl (fun x1 H locs ex1 nx1 hP hS => ?_)
  have hf := bnd_of hf ex1
  refine lv_ishr hx hb dJ0_length_8abf5_9 ?_
  exact retI (v := ((nI (lenS.getD t0 0)) >>> (x1 &&& 31))) (u := ((nI (lenS.getD t0 0)) >>> (x1 &&& 31))) (val := fun u => u) (W1 := fun u => ([] : va_W)) hx hb hr hlocks hS hP hD (hf0.trans hf.symm) rfl rfl dJ0_length_8abf5_10
set_option maxHeartbeats 4000000 in
set_option maxRecDepth 100000 in
theorem c_X3_signAt (l : Launch) (g : GG) (a0 : Nat → Nat) (v0_signs : (Nat → Int32)) (v0_numbers : (Nat → Int32)) (v0_size : Int32) (v0_at : Int32) (v0_word : Int32) (p1 : Int32) (hne : (m_X3_signAt (v0_signs, v0_numbers, v0_size, v0_at, v0_word) p1) ≠ none) : Ct l g yX3_signAt cX3_signAt 2 (some .int) ({ frames := 1, cells := 0, slots := 0, locals := 21 } : Room) [.ref (a0 0), .int p1] (wX3 a0 g v0_signs v0_numbers v0_size v0_at v0_word) (Qi g .int (m_X3_signAt (v0_signs, v0_numbers, v0_size, v0_at, v0_word) p1) (fun u => u) (fun u => wX3 a0 g v0_signs v0_numbers v0_size v0_at v0_word)) 0 0 := by
  obtain ⟨out, hf⟩ := ne_ex hne
  have hf0 := hf
  refine Ct.of (own := RX3) (by decide +kernel) rfl (Nat.le_of_ble_eq_true rfl) ?_
  intro p e s m below meth c hx hb hr hml hown hts hlocks hin hK A H locs hA hP hD hS hE ls hl
  have hl : lv_has ls 2 [(0, .ref (a0 0)), (1, .int p1)] := hl
  unfold m_X3_signAt at hf
  refine lv_iload_n hx hb dX3_signAt_0 rfl (lv_at hl 1 rfl) ?_
  refine lv_aload_n hx hb dX3_signAt_1 rfl (lv_at hl 0 rfl) ?_
  refine va_get (D := g.1) (ci := 4) (v := .int v0_size) (C := RX3) (T := TX3) (N := 5) hx hb hts layX3 hown hK.1 hP 0 rfl rfl 2 (by decide) (hts _ kw85) (fun _ h9 => h9) rfl dX3_signAt_2 ?_
  refine lv_icmp_ge (tgt := 19) hx hb dX3_signAt_5 (by decide) (fun cb => ?_) (fun cb => ?_)
  · have hf := it_t cb hf
    refine lv_iconst (v := (-1)) hx hb dX3_signAt_19 (by decide) ?_
    exact retI (v := (-1 : Int32)) (u := (-1 : Int32)) (val := fun u => u) (W1 := fun u => wX3 a0 g v0_signs v0_numbers v0_size v0_at v0_word) hx hb hr hlocks hS hP hD (hf0.trans hf.symm) rfl rfl dX3_signAt_20
  have hf := it_f cb hf
  refine lv_aload_n hx hb dX3_signAt_8 rfl (lv_at hl 0 rfl) ?_
  refine va_get (D := g.1) (ci := 4) (v := .ref (a0 1)) (C := RX3) (T := TX3) (N := 5) hx hb hts layX3 hown hK.1 hP 0 rfl rfl 0 (by decide) (hts _ kw83) (fun _ h9 => h9) rfl dX3_signAt_9 ?_
  refine lv_iload_n hx hb dX3_signAt_12 rfl (lv_at hl 1 rfl) ?_
  refine cIp hP hD hS hA hE (fun hPc hDc hSc => rV (As := [.int p1]) (rest := []) hx hb hml hown hts hK (c_X2_get l g (fun i => a0 (i + 1)) 120 v0_signs p1 (bnd_ne hf)) svV_X2_get kw321 rfl rfl hPc hDc hSc rfl rfl hl.1 (Nat.le_of_ble_eq_true rfl) dX3_signAt_13 ⟨Nat.le_of_ble_eq_true rfl, Nat.le_of_ble_eq_true rfl, rfl, rfl, Nat.le_of_ble_eq_true rfl, Nat.le_of_ble_eq_true rfl⟩) [(1, 2)] rfl rfl rfl (fun x1 H locs ex1 nx1 hP hS => ?_)
  have hf := bnd_of hf ex1
  refine lv_goto (tgt := 20) hx hb dX3_signAt_16 (by decide) ?_
  exact retI (v := x1) (u := x1) (val := fun u => u) (W1 := fun u => wX3 a0 g v0_signs v0_numbers v0_size v0_at v0_word) hx hb hr hlocks hS hP hD (hf0.trans hf.symm) rfl rfl dX3_signAt_20
set_option maxHeartbeats 4000000 in
set_option maxRecDepth 100000 in
theorem c_J0_isLatin1_aae02 (l : Launch) (g : GG) (t0 : Nat) (hne : (m_J0_isLatin1_aae02 t0) ≠ none) : Ct l g yJ0_isLatin1_aae02 cJ0_isLatin1_aae02 1 (some .boolean) ({ frames := 0, cells := 0, slots := 0, locals := 0 } : Room) [.ref (adK g t0)] (([] : va_W)) (Qi g .boolean (m_J0_isLatin1_aae02 t0) (fun u => u) (fun u => ([] : va_W))) 0 0 := by
  obtain ⟨out, hf⟩ := ne_ex hne
  have hf0 := hf
  refine Ct.of (own := RJ0) (by decide +kernel) rfl (Nat.le_of_ble_eq_true rfl) ?_
  intro p e s m below meth c hx hb hr hml hown hts hlocks hin hK A H locs hA hP hD hS hE ls hl
  have hl : lv_has ls 1 [(0, .ref (adK g t0))] := hl
  unfold m_J0_isLatin1_aae02 at hf
  have hT := it_n hf
  have hf := it_t hT hf
  refine va_gets hx hb hE.2.1 hS hown (hts _ kw317) (fun _ h9 => h9) dJ0_isLatin1_aae02_0 ?_
  refine lv_if_eq (tgt := 17) hx hb dJ0_isLatin1_aae02_3 (by decide) (fun cb => ?_) (fun cb => ?_)
  · have hf := it_t cb hf
    cases hf
  have hf := it_f cb hf
  refine lv_aload_n hx hb dJ0_isLatin1_aae02_6 rfl (lv_at hl 0 rfl) ?_
  refine vk_getf hx hb (hE.1.1 _ hT).2.1 hS hown (hts _ kw1786) (fun _ h9 => h9) dJ0_isLatin1_aae02_7 ?_
  refine lv_if_ne (tgt := 17) hx hb dJ0_isLatin1_aae02_10 (by decide) (fun cb => ?_) (fun cb => ?_)
  · have hf := it_f cb hf
    cases hf
  have hf := it_t cb hf
  refine lv_iconst (v := 1) hx hb dJ0_isLatin1_aae02_13 (by decide) ?_
  refine lv_goto (tgt := 18) hx hb dJ0_isLatin1_aae02_14 (by decide) ?_
  exact retI (v := (1 : Int32)) (u := (1 : Int32)) (val := fun u => u) (W1 := fun u => ([] : va_W)) hx hb hr hlocks hS hP hD (hf0.trans hf.symm) rfl rfl dJ0_isLatin1_aae02_18
set_option maxHeartbeats 4000000 in
set_option maxRecDepth 100000 in
theorem c_J3_checkIndex_8e157_nul (l : Launch) (g : GG) (p0 : Int32) (p1 : Int32) (hne : (m_J3_checkIndex_8e157 p0 p1) ≠ none) : Ct l g yJ3_checkIndex_8e157 cJ3_checkIndex_8e157 3 (some .int) ({ frames := 0, cells := 0, slots := 0, locals := 0 } : Room) [.int p0, .int p1, .null] (([] : va_W)) (Qi g .int (m_J3_checkIndex_8e157 p0 p1) (fun u => u) (fun u => ([] : va_W))) 0 0 := by
  obtain ⟨out, hf⟩ := ne_ex hne
  have hf0 := hf
  refine Ct.of (own := RJ3) (by decide +kernel) rfl (Nat.le_of_ble_eq_true rfl) ?_
  intro p e s m below meth c hx hb hr hml hown hts hlocks hin hK A H locs hA hP hD hS hE ls hl
  have hl : lv_has ls 3 [(0, .int p0), (1, .int p1), (2, .null)] := hl
  unfold m_J3_checkIndex_8e157 at hf
  refine lv_iload_n hx hb dJ3_checkIndex_8e157_0 rfl (lv_at hl 0 rfl) ?_
  obtain ⟨r1, er1, hf⟩ := bnd hf
  have K : match r1 with | .inl x2 => (∀ (H : Heap) (locs : List Loc) (ls : Array Slot), va_P g.1 vwCl (([] : va_W)) H → va_D A (([] : va_W)) → va_S A s.heap H locs → lv_has ls 3 [(0, .int p0), (1, .int p1), (2, .null)] → W p l e { frames := 0, cells := 0, slots := 0, locals := 0 } s m [.int p0, .int p1, .null].toArray below meth c H locs 0 0 (MQ below (Qi g .int (m_J3_checkIndex_8e157 p0 p1) (fun u => u) (fun u => ([] : va_W)) A) [.int p0, .int p1, .null].toArray s 0 0 A) (F0 m 9 ls [])) | .inr v => (m_J3_checkIndex_8e157 p0 p1) = some v := by
    rcases r1 with x2 | v
    · intro H locs ls hP hD hS hl
      cases hf
    · exact hf0.trans hf.symm
  have hf := er1
  refine lv_if_lt (tgt := 9) hx hb dJ3_checkIndex_8e157_1 (by decide) (fun cb => ?_) (fun cb => ?_)
  · have hf := it_t cb hf
    have hq := Option.some.inj hf
    subst hq
    exact K _ _ _ hP hD hS (lv_sub hl [0, 1, 2] rfl)
  have hf := it_f cb hf
  refine lv_iload_n hx hb dJ3_checkIndex_8e157_4 rfl (lv_at hl 0 rfl) ?_
  refine lv_iload_n hx hb dJ3_checkIndex_8e157_5 rfl (lv_at hl 1 rfl) ?_
  refine lv_icmp_lt (tgt := 16) hx hb dJ3_checkIndex_8e157_6 (by decide) (fun cb => ?_) (fun cb => ?_)
  · have hf := it_t cb hf
    refine lv_iload_n hx hb dJ3_checkIndex_8e157_16 rfl (lv_at hl 0 rfl) ?_
    have hq := Option.some.inj hf
    subst hq
    exact retI (v := p0) (u := p0) (val := fun u => u) (W1 := fun u => ([] : va_W)) hx hb hr hlocks hS hP hD K rfl rfl dJ3_checkIndex_8e157_17
  have hf := it_f cb hf
  have hq := Option.some.inj hf
  subst hq
  exact K _ _ _ hP hD hS (lv_sub hl [0, 1, 2] rfl)
set_option maxHeartbeats 4000000 in
set_option maxRecDepth 100000 in
theorem c_J3_checkIndex_8e157_ref (l : Launch) (g : GG) (p0 : Int32) (p1 : Int32) (q2 : Nat) (hne : (m_J3_checkIndex_8e157 p0 p1) ≠ none) : Ct l g yJ3_checkIndex_8e157 cJ3_checkIndex_8e157 3 (some .int) ({ frames := 0, cells := 0, slots := 0, locals := 0 } : Room) [.int p0, .int p1, .ref q2] (([] : va_W)) (Qi g .int (m_J3_checkIndex_8e157 p0 p1) (fun u => u) (fun u => ([] : va_W))) 0 0 := by
  obtain ⟨out, hf⟩ := ne_ex hne
  have hf0 := hf
  refine Ct.of (own := RJ3) (by decide +kernel) rfl (Nat.le_of_ble_eq_true rfl) ?_
  intro p e s m below meth c hx hb hr hml hown hts hlocks hin hK A H locs hA hP hD hS hE ls hl
  have hl : lv_has ls 3 [(0, .int p0), (1, .int p1), (2, .ref q2)] := hl
  unfold m_J3_checkIndex_8e157 at hf
  refine lv_iload_n hx hb dJ3_checkIndex_8e157_0 rfl (lv_at hl 0 rfl) ?_
  obtain ⟨r1, er1, hf⟩ := bnd hf
  have K : match r1 with | .inl x2 => (∀ (H : Heap) (locs : List Loc) (ls : Array Slot), va_P g.1 vwCl (([] : va_W)) H → va_D A (([] : va_W)) → va_S A s.heap H locs → lv_has ls 3 [(0, .int p0), (1, .int p1), (2, .ref q2)] → W p l e { frames := 0, cells := 0, slots := 0, locals := 0 } s m [.int p0, .int p1, .ref q2].toArray below meth c H locs 0 0 (MQ below (Qi g .int (m_J3_checkIndex_8e157 p0 p1) (fun u => u) (fun u => ([] : va_W)) A) [.int p0, .int p1, .ref q2].toArray s 0 0 A) (F0 m 9 ls [])) | .inr v => (m_J3_checkIndex_8e157 p0 p1) = some v := by
    rcases r1 with x2 | v
    · intro H locs ls hP hD hS hl
      cases hf
    · exact hf0.trans hf.symm
  have hf := er1
  refine lv_if_lt (tgt := 9) hx hb dJ3_checkIndex_8e157_1 (by decide) (fun cb => ?_) (fun cb => ?_)
  · have hf := it_t cb hf
    have hq := Option.some.inj hf
    subst hq
    exact K _ _ _ hP hD hS (lv_sub hl [0, 1, 2] rfl)
  have hf := it_f cb hf
  refine lv_iload_n hx hb dJ3_checkIndex_8e157_4 rfl (lv_at hl 0 rfl) ?_
  refine lv_iload_n hx hb dJ3_checkIndex_8e157_5 rfl (lv_at hl 1 rfl) ?_
  refine lv_icmp_lt (tgt := 16) hx hb dJ3_checkIndex_8e157_6 (by decide) (fun cb => ?_) (fun cb => ?_)
  · have hf := it_t cb hf
    refine lv_iload_n hx hb dJ3_checkIndex_8e157_16 rfl (lv_at hl 0 rfl) ?_
    have hq := Option.some.inj hf
    subst hq
    exact retI (v := p0) (u := p0) (val := fun u => u) (W1 := fun u => ([] : va_W)) hx hb hr hlocks hS hP hD K rfl rfl dJ3_checkIndex_8e157_17
  have hf := it_f cb hf
  have hq := Option.some.inj hf
  subst hq
  exact K _ _ _ hP hD hS (lv_sub hl [0, 1, 2] rfl)
set_option maxHeartbeats 4000000 in
set_option maxRecDepth 100000 in
theorem c_J0_checkIndex_df160 (l : Launch) (g : GG) (p0 : Int32) (p1 : Int32) (hne : (m_J0_checkIndex_df160 p0 p1) ≠ none) : Ct l g yJ0_checkIndex_df160 cJ0_checkIndex_df160 2 none ({ frames := 1, cells := 0, slots := 0, locals := 22 } : Room) [.int p0, .int p1] (([] : va_W)) (Qv g (m_J0_checkIndex_df160 p0 p1) (fun u => ([] : va_W))) 0 0 := by
  obtain ⟨out, hf⟩ := ne_ex hne
  have hf0 := hf
  refine Ct.of (own := RJ0) (by decide +kernel) rfl (Nat.le_of_ble_eq_true rfl) ?_
  intro p e s m below meth c hx hb hr hml hown hts hlocks hin hK A H locs hA hP hD hS hE ls hl
  have hl : lv_has ls 2 [(0, .int p0), (1, .int p1)] := hl
  unfold m_J0_checkIndex_df160 at hf
  refine lv_iload_n hx hb dJ0_checkIndex_df160_0 rfl (lv_at hl 0 rfl) ?_
  refine lv_iload_n hx hb dJ0_checkIndex_df160_1 rfl (lv_at hl 1 rfl) ?_
  rcases hE.2.2.1 with hz | ⟨q1, hz⟩
  · refine va_gets hx hb hz hS hown (hts _ kw336) (fun _ h9 => h9) dJ0_checkIndex_df160_2 ?_
    refine cIp hP hD hS hA hE (fun hPc hDc hSc => rS (As := [.int p0, .int p1, .null]) (rest := []) hx hb hml hown hts hK (c_J3_checkIndex_8e157_nul l g p0 p1 (bnd_ne hf)) svS_J3_checkIndex_8e157 kw337 hPc hDc hSc rfl rfl hl.1 (Nat.le_of_ble_eq_true rfl) dJ0_checkIndex_df160_5 ⟨Nat.le_of_ble_eq_true rfl, Nat.le_of_ble_eq_true rfl, rfl, rfl, Nat.le_of_ble_eq_true rfl, Nat.le_of_ble_eq_true rfl⟩) [] rfl rfl rfl (fun x2 H locs ex2 nx2 hP hS => ?_)
    have hf := bnd_of hf ex2
    refine lv_pop hx hb dJ0_checkIndex_df160_8 rfl ?_
    exact retV (u := ()) (W1 := fun u => ([] : va_W)) hx hb hr hlocks hS hP hD (hf0.trans hf.symm) dJ0_checkIndex_df160_9
  · refine va_gets hx hb hz hS hown (hts _ kw336) (fun _ h9 => h9) dJ0_checkIndex_df160_2 ?_
    refine cIp hP hD hS hA hE (fun hPc hDc hSc => rS (As := [.int p0, .int p1, .ref q1]) (rest := []) hx hb hml hown hts hK (c_J3_checkIndex_8e157_ref l g p0 p1 q1 (bnd_ne hf)) svS_J3_checkIndex_8e157 kw337 hPc hDc hSc rfl rfl hl.1 (Nat.le_of_ble_eq_true rfl) dJ0_checkIndex_df160_5 ⟨Nat.le_of_ble_eq_true rfl, Nat.le_of_ble_eq_true rfl, rfl, rfl, Nat.le_of_ble_eq_true rfl, Nat.le_of_ble_eq_true rfl⟩) [] rfl rfl rfl (fun x2 H locs ex2 nx2 hP hS => ?_)
    have hf := bnd_of hf ex2
    refine lv_pop hx hb dJ0_checkIndex_df160_8 rfl ?_
    exact retV (u := ()) (W1 := fun u => ([] : va_W)) hx hb hr hlocks hS hP hD (hf0.trans hf.symm) dJ0_checkIndex_df160_9
set_option maxHeartbeats 4000000 in
set_option maxRecDepth 100000 in
theorem c_J1_charAt_3b067_sv (l : Launch) (g : GG) (p0 : Nat) (p1 : Int32) (hne : (m_J1_charAt_3b067_sv p0 p1) ≠ none) : Ct l g yJ1_charAt_3b067 cJ1_charAt_3b067 2 (some .char) ({ frames := 2, cells := 0, slots := 0, locals := 43 } : Room) [.ref (adV g p0), .int p1] (([] : va_W)) (Qi g .char (m_J1_charAt_3b067_sv p0 p1) (fun u => u) (fun u => ([] : va_W))) 0 0 := by
  obtain ⟨out, hf⟩ := ne_ex hne
  have hf0 := hf
  refine Ct.of (own := RJ1) (by decide +kernel) rfl (Nat.le_of_ble_eq_true rfl) ?_
  intro p e s m below meth c hx hb hr hml hown hts hlocks hin hK A H locs hA hP hD hS hE ls hl
  have hl : lv_has ls 2 [(0, .ref (adV g p0)), (1, .int p1)] := hl
  unfold m_J1_charAt_3b067_sv at hf
  have hT := it_n hf
  have hf := it_t hT hf
  refine lv_iload_n hx hb dJ1_charAt_3b067_0 rfl (lv_at hl 1 rfl) ?_
  refine lv_aload_n hx hb dJ1_charAt_3b067_1 rfl (lv_at hl 0 rfl) ?_
  refine va_tlen (v := (nI (lenS.getD p0 0))) hx hb (hE.1.1 _ hT).2.2.2 hS rfl dJ1_charAt_3b067_2 ?_
  refine cV hP hD hS hA hE (fun hPc hDc hSc => rS (As := [.int p1, .int (nI (lenS.getD p0 0))]) (rest := []) hx hb hml hown hts hK (c_J0_checkIndex_df160 l g p1 (nI (lenS.getD p0 0)) (bnd_ne hf)) svS_J0_checkIndex_df160 kw333 hPc hDc hSc rfl rfl hl.1 (Nat.le_of_ble_eq_true rfl) dJ1_charAt_3b067_3 ⟨Nat.le_of_ble_eq_true rfl, Nat.le_of_ble_eq_true rfl, rfl, rfl, Nat.le_of_ble_eq_true rfl, Nat.le_of_ble_eq_true rfl⟩) [] rfl rfl rfl (fun _ => rfl) (fun x1 H locs ex1 hP hD hS => ?_)
  have hf := bnd_of hf ex1
  have hP : va_P g.1 vwCl (([] : va_W)) H := hP
  have hD : va_D A (([] : va_W)) := hD
  refine lv_aload_n hx hb dJ1_charAt_3b067_6 rfl (lv_at hl 0 rfl) ?_
  refine lv_iload_n hx hb dJ1_charAt_3b067_7 rfl (lv_at hl 1 rfl) ?_
  have hi := it_n hf
  have hf := it_t hi hf
  refine va_tb hx hb (hE.1.1 _ hT).2.2.2 hS (inb_in hi) (v := .int ((bytS.getD p0 []).getD p1.toNatClampNeg 0)) rfl dJ1_charAt_3b067_8 ?_
  refine lv_sipush (v := 255) hx hb dJ1_charAt_3b067_9 (by decide) ?_
  refine lv_iand hx hb dJ1_charAt_3b067_12 ?_
  refine lv_i2c (v := ((((bytS.getD p0 []).getD p1.toNatClampNeg 0) &&& (255 : Int32)).toUInt32 % 65536).toInt32) hx hb dJ1_charAt_3b067_13 rfl ?_
  exact retI (v := ((((bytS.getD p0 []).getD p1.toNatClampNeg 0) &&& (255 : Int32)).toUInt32 % 65536).toInt32) (u := ((((bytS.getD p0 []).getD p1.toNatClampNeg 0) &&& (255 : Int32)).toUInt32 % 65536).toInt32) (val := fun u => u) (W1 := fun u => ([] : va_W)) hx hb hr hlocks hS hP hD (hf0.trans hf.symm) rfl (pk_nc _) dJ1_charAt_3b067_14
set_option maxHeartbeats 4000000 in
set_option maxRecDepth 100000 in
theorem c_J0_charAt_5068e (l : Launch) (g : GG) (t0 : Nat) (p1 : Int32) (hne : (m_J0_charAt_5068e t0 p1) ≠ none) : Ct l g yJ0_charAt_5068e cJ0_charAt_5068e 2 (some .char) ({ frames := 3, cells := 0, slots := 0, locals := 64 } : Room) [.ref (adK g t0), .int p1] (([] : va_W)) (Qi g .char (m_J0_charAt_5068e t0 p1) (fun u => u) (fun u => ([] : va_W))) 0 0 := by
  obtain ⟨out, hf⟩ := ne_ex hne
  have hf0 := hf
  refine Ct.of (own := RJ0) (by decide +kernel) rfl (Nat.le_of_ble_eq_true rfl) ?_
  intro p e s m below meth c hx hb hr hml hown hts hlocks hin hK A H locs hA hP hD hS hE ls hl
  have hl : lv_has ls 2 [(0, .ref (adK g t0)), (1, .int p1)] := hl
  unfold m_J0_charAt_5068e at hf
  have hT := it_n hf
  have hf := it_t hT hf
  refine lv_aload_n hx hb dJ0_charAt_5068e_0 rfl (lv_at hl 0 rfl) ?_
  have hT9 := it_n hf
  have hf := it_t hT9 hf
  refine cIp hP hD hS hA hE (fun hPc hDc hSc => rVs (As := []) (rest := []) hx hb hml hown hts hK (c_J0_isLatin1_aae02 l g t0 (bnd_ne hf)) svV_J0_isLatin1_aae02 kw326 hE hS hT9 hPc hDc hSc rfl rfl hl.1 (Nat.le_of_ble_eq_true rfl) dJ0_charAt_5068e_1 ⟨Nat.le_of_ble_eq_true rfl, Nat.le_of_ble_eq_true rfl, rfl, rfl, Nat.le_of_ble_eq_true rfl, Nat.le_of_ble_eq_true rfl⟩) [] rfl rfl rfl (fun x1 H locs ex1 nx1 hP hS => ?_)
  have hf := bnd_of hf ex1
  refine lv_if_eq (tgt := 16) hx hb dJ0_charAt_5068e_4 (by decide) (fun cb => ?_) (fun cb => ?_)
  · have hf := it_t cb hf
    cases hf
  have hf := it_f cb hf
  refine lv_aload_n hx hb dJ0_charAt_5068e_7 rfl (lv_at hl 0 rfl) ?_
  refine vk_getf hx hb (hE.1.1 _ hT).2.2.1 hS hown (hts _ kw1785) (fun _ h9 => h9) dJ0_charAt_5068e_8 ?_
  refine lv_iload_n hx hb dJ0_charAt_5068e_11 rfl (lv_at hl 1 rfl) ?_
  refine cIp hP hD hS hA hE (fun hPc hDc hSc => rS (As := [.ref (adV g t0), .int p1]) (rest := []) hx hb hml hown hts hK (c_J1_charAt_3b067_sv l g t0 p1 (bnd_ne hf)) svS_J1_charAt_3b067 kw330 hPc hDc hSc rfl rfl hl.1 (Nat.le_of_ble_eq_true rfl) dJ0_charAt_5068e_12 ⟨Nat.le_of_ble_eq_true rfl, Nat.le_of_ble_eq_true rfl, rfl, rfl, Nat.le_of_ble_eq_true rfl, Nat.le_of_ble_eq_true rfl⟩) [] rfl rfl rfl (fun x2 H locs ex2 nx2 hP hS => ?_)
  have hf := bnd_of hf ex2
  exact retI (v := x2) (u := x2) (val := fun u => u) (W1 := fun u => ([] : va_W)) hx hb hr hlocks hS hP hD (hf0.trans hf.symm) rfl nx2 dJ0_charAt_5068e_15
set_option maxHeartbeats 4000000 in
set_option maxRecDepth 100000 in
theorem c_X3_alikeWith (l : Launch) (g : GG) (a0 : Nat → Nat) (v0_signs : (Nat → Int32)) (v0_numbers : (Nat → Int32)) (v0_size : Int32) (v0_at : Int32) (v0_word : Int32) (p1 : Nat) (hne : (m_X3_alikeWith (v0_signs, v0_numbers, v0_size, v0_at, v0_word) p1) ≠ none) : Ct l g yX3_alikeWith cX3_alikeWith 3 (some .int) ({ frames := 4, cells := 0, slots := 0, locals := 85 } : Room) [.ref (a0 0), .ref (adK g p1)] (wX3 a0 g v0_signs v0_numbers v0_size v0_at v0_word) (Qi g .int (m_X3_alikeWith (v0_signs, v0_numbers, v0_size, v0_at, v0_word) p1) (fun u => u) (fun u => wX3 a0 g v0_signs v0_numbers v0_size v0_at v0_word)) 0 0 := by
  obtain ⟨out, hf⟩ := ne_ex hne
  have hf0 := hf
  refine Ct.of (own := RX3) (by decide +kernel) rfl (Nat.le_of_ble_eq_true rfl) ?_
  intro p e s m below meth c hx hb hr hml hown hts hlocks hin hK A H locs hA hP hD hS hE ls hl
  have hl : lv_has ls 3 [(0, .ref (a0 0)), (1, .ref (adK g p1))] := hl
  unfold m_X3_alikeWith at hf
  refine lv_iconst (v := 0) hx hb dX3_alikeWith_0 (by decide) ?_
  refine lv_istore_n (lv' := [(2, .int (0 : Int32)), (0, .ref (a0 0)), (1, .ref (adK g p1))]) hx hb dX3_alikeWith_1 rfl hl (by decide) rfl (fun ls hl => ?_)
  obtain ⟨r8, er8, hf⟩ := bnd hf
  refine lp_W (P := fun z => ∀ (H : Heap) (locs : List Loc) (ls : Array Slot), va_P g.1 vwCl (wX3 a0 g v0_signs v0_numbers v0_size v0_at v0_word) H → va_D A (wX3 a0 g v0_signs v0_numbers v0_size v0_at v0_word) → va_S A s.heap H locs → lv_has ls 3 [(0, .ref (a0 0)), (1, .ref (adK g p1)), (2, .int z)] → W p l e { frames := 4, cells := 0, slots := 0, locals := 85 } s m [.ref (a0 0), .ref (adK g p1)].toArray below meth c H locs 0 0 (MQ below (Qi g .int (m_X3_alikeWith (v0_signs, v0_numbers, v0_size, v0_at, v0_word) p1) (fun u => u) (fun u => wX3 a0 g v0_signs v0_numbers v0_size v0_at v0_word) A) [.ref (a0 0), .ref (adK g p1)].toArray s 0 0 A) (F0 m 2 ls [])) (E := fun r8 => ∀ (H : Heap) (locs : List Loc) (ls : Array Slot), va_P g.1 vwCl (wX3 a0 g v0_signs v0_numbers v0_size v0_at v0_word) H → va_D A (wX3 a0 g v0_signs v0_numbers v0_size v0_at v0_word) → va_S A s.heap H locs → lv_has ls 3 [(2, .int r8)] → W p l e { frames := 4, cells := 0, slots := 0, locals := 85 } s m [.ref (a0 0), .ref (adK g p1)].toArray below meth c H locs 0 0 (MQ below (Qi g .int (m_X3_alikeWith (v0_signs, v0_numbers, v0_size, v0_at, v0_word) p1) (fun u => u) (fun u => wX3 a0 g v0_signs v0_numbers v0_size v0_at v0_word) A) [.ref (a0 0), .ref (adK g p1)].toArray s 0 0 A) (F0 m 34 ls [])) ?_ fu _ r8 er8 ?_ _ _ _ hP hD hS (lv_sub hl [1, 2, 0] rfl)
  · rintro x4 y hf hB hXt H locs ls hP hD hS hl
    have hP : va_P g.1 vwCl (wX3 a0 g v0_signs v0_numbers v0_size v0_at v0_word) H := hP
    have hD : va_D A (wX3 a0 g v0_signs v0_numbers v0_size v0_at v0_word) := hD
    have hl : lv_has ls 3 [(0, .ref (a0 0)), (1, .ref (adK g p1)), (2, .int x4)] := hl
    have hf : m_X3_alikeWith_l2 (v0_signs, v0_numbers, v0_size, v0_at, v0_word) p1 x4 = some y := hf
    unfold m_X3_alikeWith_l2 at hf
    refine lv_iload_n hx hb dX3_alikeWith_2 rfl (lv_at hl 2 rfl) ?_
    refine lv_aload_n hx hb dX3_alikeWith_3 rfl (lv_at hl 1 rfl) ?_
    have hT9 := it_n hf
    have hf := it_t hT9 hf
    refine cIp hP hD hS hA hE (fun hPc hDc hSc => rVs (As := []) (rest := [.int x4]) hx hb hml hown hts hK (c_J0_length_8abf5 l g p1 (bnd_ne hf)) svV_J0_length_8abf5 kw309 hE hS hT9 hPc hDc hSc rfl rfl hl.1 (Nat.le_of_ble_eq_true rfl) dX3_alikeWith_4 ⟨Nat.le_of_ble_eq_true rfl, Nat.le_of_ble_eq_true rfl, rfl, rfl, Nat.le_of_ble_eq_true rfl, Nat.le_of_ble_eq_true rfl⟩) [] rfl rfl rfl (fun x5 H locs ex5 nx5 hP hS => ?_)
    have hf := bnd_of hf ex5
    refine lv_icmp_ge (tgt := 34) hx hb dX3_alikeWith_7 (by decide) (fun cb => ?_) (fun cb => ?_)
    · have hf := it_t cb hf
      exact hXt _ (Option.some.inj hf).symm _ _ _ hP hD hS (lv_sub hl [2] rfl)
    have hf := it_f cb hf
    refine lv_aload_n hx hb dX3_alikeWith_10 rfl (lv_at hl 0 rfl) ?_
    refine lv_aload_n hx hb dX3_alikeWith_11 rfl (lv_at hl 0 rfl) ?_
    refine va_get (D := g.1) (ci := 4) (v := .int v0_at) (C := RX3) (T := TX3) (N := 5) hx hb hts layX3 hown hK.1 hP 0 rfl rfl 3 (by decide) (hts _ kw86) (fun _ h9 => h9) rfl dX3_alikeWith_12 ?_
    refine lv_iload_n hx hb dX3_alikeWith_15 rfl (lv_at hl 2 rfl) ?_
    refine lv_iadd hx hb dX3_alikeWith_16 ?_
    refine cIp hP hD hS hA hE (fun hPc hDc hSc => rV (As := [.int (v0_at + x4)]) (rest := []) hx hb hml hown hts hK (c_X3_signAt l g a0 v0_signs v0_numbers v0_size v0_at v0_word (v0_at + x4) (bnd_ne hf)) svV_X3_signAt kw318 rfl rfl hPc hDc hSc rfl rfl hl.1 (Nat.le_of_ble_eq_true rfl) dX3_alikeWith_17 ⟨Nat.le_of_ble_eq_true rfl, Nat.le_of_ble_eq_true rfl, rfl, rfl, Nat.le_of_ble_eq_true rfl, Nat.le_of_ble_eq_true rfl⟩) [(0, 5)] rfl rfl rfl (fun x6 H locs ex6 nx6 hP hS => ?_)
    have hf := bnd_of hf ex6
    refine lv_aload_n hx hb dX3_alikeWith_20 rfl (lv_at hl 1 rfl) ?_
    refine lv_iload_n hx hb dX3_alikeWith_21 rfl (lv_at hl 2 rfl) ?_
    have hT9 := it_n hf
    have hf := it_t hT9 hf
    refine cIp hP hD hS hA hE (fun hPc hDc hSc => rVs (As := [.int x4]) (rest := [.int x6]) hx hb hml hown hts hK (c_J0_charAt_5068e l g p1 x4 (bnd_ne hf)) svV_J0_charAt_5068e kw322 hE hS hT9 hPc hDc hSc rfl rfl hl.1 (Nat.le_of_ble_eq_true rfl) dX3_alikeWith_22 ⟨Nat.le_of_ble_eq_true rfl, Nat.le_of_ble_eq_true rfl, rfl, rfl, Nat.le_of_ble_eq_true rfl, Nat.le_of_ble_eq_true rfl⟩) [] rfl rfl rfl (fun x7 H locs ex7 nx7 hP hS => ?_)
    have hf := bnd_of hf ex7
    refine lv_icmp_ne (tgt := 34) hx hb dX3_alikeWith_25 (by decide) (fun cb => ?_) (fun cb => ?_)
    · have hf := it_f cb hf
      exact hXt _ (Option.some.inj hf).symm _ _ _ hP hD hS (lv_sub hl [2] rfl)
    have hf := it_t cb hf
    refine lv_iinc (v := (x4 + 1)) (lv' := [(2, .int (x4 + 1)), (0, .ref (a0 0)), (1, .ref (adK g p1))]) hx hb dX3_alikeWith_28 hl (k := 2) rfl (by rfl) (by decide) rfl (fun ls hl => ?_)
    refine lv_goto (tgt := 2) hx hb dX3_alikeWith_31 (by decide) ?_
    exact hB _ (Option.some.inj hf).symm _ _ _ hP hD hS (lv_sub hl [1, 2, 0] rfl)
  intro H locs ls hP hD hS hl
  have hP : va_P g.1 vwCl (wX3 a0 g v0_signs v0_numbers v0_size v0_at v0_word) H := hP
  have hD : va_D A (wX3 a0 g v0_signs v0_numbers v0_size v0_at v0_word) := hD
  have hl : lv_has ls 3 [(2, .int r8)] := hl
  refine lv_iload_n hx hb dX3_alikeWith_34 rfl (lv_at hl 0 rfl) ?_
  exact retI (v := r8) (u := r8) (val := fun u => u) (W1 := fun u => wX3 a0 g v0_signs v0_numbers v0_size v0_at v0_word) hx hb hr hlocks hS hP hD (hf0.trans hf.symm) rfl rfl dX3_alikeWith_35
set_option maxHeartbeats 4000000 in
set_option maxRecDepth 100000 in
theorem c_X3_readWord (l : Launch) (g : GG) (a0 : Nat → Nat) (v0_signs : (Nat → Int32)) (v0_numbers : (Nat → Int32)) (v0_size : Int32) (v0_at : Int32) (v0_word : Int32) (hne : (m_X3_readWord (v0_signs, v0_numbers, v0_size, v0_at, v0_word)) ≠ none) : Ct l g yX3_readWord cX3_readWord 4 (some .boolean) ({ frames := 5, cells := 0, slots := 0, locals := 107 } : Room) [.ref (a0 0)] (wX3 a0 g v0_signs v0_numbers v0_size v0_at v0_word) (Qi g .boolean (m_X3_readWord (v0_signs, v0_numbers, v0_size, v0_at, v0_word)) (fun u => u.1) (fun u => wX3 a0 g v0_signs v0_numbers v0_size u.2.1 u.2.2)) 0 0 := by
  obtain ⟨out, hf⟩ := ne_ex hne
  have hf0 := hf
  refine Ct.of (own := RX3) (by decide +kernel) rfl (Nat.le_of_ble_eq_true rfl) ?_
  intro p e s m below meth c hx hb hr hml hown hts hlocks hin hK A H locs hA hP hD hS hE ls hl
  have hl : lv_has ls 4 [(0, .ref (a0 0))] := hl
  unfold m_X3_readWord at hf
  refine lv_iconst (v := 0) hx hb dX3_readWord_0 (by decide) ?_
  refine lv_istore_n (lv' := [(1, .int (0 : Int32)), (0, .ref (a0 0))]) hx hb dX3_readWord_1 rfl hl (by decide) rfl (fun ls hl => ?_)
  refine lv_iconst (v := 0) hx hb dX3_readWord_2 (by decide) ?_
  refine lv_istore_n (lv' := [(2, .int (0 : Int32)), (1, .int (0 : Int32)), (0, .ref (a0 0))]) hx hb dX3_readWord_3 rfl hl (by decide) rfl (fun ls hl => ?_)
  obtain ⟨r13, er13, hf⟩ := bnd hf
  refine lp_W (P := fun z => ∀ (H : Heap) (locs : List Loc) (ls : Array Slot), va_P g.1 vwCl (wX3 a0 g v0_signs v0_numbers v0_size v0_at v0_word) H → va_D A (wX3 a0 g v0_signs v0_numbers v0_size v0_at v0_word) → va_S A s.heap H locs → lv_has ls 4 [(0, .ref (a0 0)), (1, .int z.1), (2, .int z.2)] → W p l e { frames := 5, cells := 0, slots := 0, locals := 107 } s m [.ref (a0 0)].toArray below meth c H locs 0 0 (MQ below (Qi g .boolean (m_X3_readWord (v0_signs, v0_numbers, v0_size, v0_at, v0_word)) (fun u => u.1) (fun u => wX3 a0 g v0_signs v0_numbers v0_size u.2.1 u.2.2) A) [.ref (a0 0)].toArray s 0 0 A) (F0 m 4 ls [])) (E := fun r13 => match r13 with | .inl x14 => (∀ (H : Heap) (locs : List Loc) (ls : Array Slot), va_P g.1 vwCl (wX3 a0 g v0_signs v0_numbers v0_size v0_at v0_word) H → va_D A (wX3 a0 g v0_signs v0_numbers v0_size v0_at v0_word) → va_S A s.heap H locs → lv_has ls 4 [(0, .ref (a0 0)), (2, .int x14.1), (3, .int x14.2)] → W p l e { frames := 5, cells := 0, slots := 0, locals := 107 } s m [.ref (a0 0)].toArray below meth c H locs 0 0 (MQ below (Qi g .boolean (m_X3_readWord (v0_signs, v0_numbers, v0_size, v0_at, v0_word)) (fun u => u.1) (fun u => wX3 a0 g v0_signs v0_numbers v0_size u.2.1 u.2.2) A) [.ref (a0 0)].toArray s 0 0 A) (F0 m 30 ls [])) | .inr x15 => (∀ (H : Heap) (locs : List Loc) (ls : Array Slot), va_P g.1 vwCl (wX3 a0 g v0_signs v0_numbers v0_size v0_at v0_word) H → va_D A (wX3 a0 g v0_signs v0_numbers v0_size v0_at v0_word) → va_S A s.heap H locs → lv_has ls 4 [(0, .ref (a0 0)), (1, .int x15)] → W p l e { frames := 5, cells := 0, slots := 0, locals := 107 } s m [.ref (a0 0)].toArray below meth c H locs 0 0 (MQ below (Qi g .boolean (m_X3_readWord (v0_signs, v0_numbers, v0_size, v0_at, v0_word)) (fun u => u.1) (fun u => wX3 a0 g v0_signs v0_numbers v0_size u.2.1 u.2.2) A) [.ref (a0 0)].toArray s 0 0 A) (F0 m 59 ls []))) ?_ fu _ r13 er13 ?_ _ _ _ hP hD hS (lv_sub hl [2, 1, 0] rfl)
  · rintro ⟨x6, x7⟩ y hf hB hXt H locs ls hP hD hS hl
    have hP : va_P g.1 vwCl (wX3 a0 g v0_signs v0_numbers v0_size v0_at v0_word) H := hP
    have hD : va_D A (wX3 a0 g v0_signs v0_numbers v0_size v0_at v0_word) := hD
    have hl : lv_has ls 4 [(0, .ref (a0 0)), (1, .int x6), (2, .int x7)] := hl
    have hf : m_X3_readWord_l4 (v0_signs, v0_numbers, v0_size, v0_at, v0_word) x6 x7 = some y := hf
    unfold m_X3_readWord_l4 at hf
    refine lv_iload_n hx hb dX3_readWord_4 rfl (lv_at hl 2 rfl) ?_
    refine lv_bipush (v := 8) hx hb dX3_readWord_5 (by decide) ?_
    refine lv_icmp_ge (tgt := 59) hx hb dX3_readWord_7 (by decide) (fun cb => ?_) (fun cb => ?_)
    · have hf := it_t cb hf
      exact hXt _ (Option.some.inj hf).symm _ _ _ hP hD hS (lv_sub hl [0, 1] rfl)
    have hf := it_f cb hf
    refine lv_aload_n hx hb dX3_readWord_10 rfl (lv_at hl 0 rfl) ?_
    refine lv_iload_n hx hb dX3_readWord_11 rfl (lv_at hl 2 rfl) ?_
    refine cR hP hD hS hA hE (fun hPc hDc hSc => rS (As := [.int x7]) (rest := [.ref (a0 0)]) hx hb hml hown hts hK (c_X3_textOf l g x7 (bnd_ne hf)) svS_X3_textOf kw303 hPc hDc hSc rfl rfl hl.1 (Nat.le_of_ble_eq_true rfl) dX3_readWord_12 ⟨Nat.le_of_ble_eq_true rfl, Nat.le_of_ble_eq_true rfl, rfl, rfl, Nat.le_of_ble_eq_true rfl, Nat.le_of_ble_eq_true rfl⟩) [] rfl rfl rfl (fun _ => rfl) (fun x8 H locs ex8 hP hD hS => ?_)
    have hf := bnd_of hf ex8
    have hP : va_P g.1 vwCl (wX3 a0 g v0_signs v0_numbers v0_size v0_at v0_word) H := hP
    have hD : va_D A (wX3 a0 g v0_signs v0_numbers v0_size v0_at v0_word) := hD
    refine cIp hP hD hS hA hE (fun hPc hDc hSc => rV (As := [.ref (adK g x8)]) (rest := []) hx hb hml hown hts hK (c_X3_alikeWith l g a0 v0_signs v0_numbers v0_size v0_at v0_word x8 (bnd_ne hf)) svV_X3_alikeWith kw306 rfl rfl hPc hDc hSc rfl rfl hl.1 (Nat.le_of_ble_eq_true rfl) dX3_readWord_15 ⟨Nat.le_of_ble_eq_true rfl, Nat.le_of_ble_eq_true rfl, rfl, rfl, Nat.le_of_ble_eq_true rfl, Nat.le_of_ble_eq_true rfl⟩) [(0, 5)] rfl rfl rfl (fun x9 H locs ex9 nx9 hP hS => ?_)
    have hf := bnd_of hf ex9
    refine lv_istore_n (lv' := [(3, .int x9), (0, .ref (a0 0)), (1, .int x6), (2, .int x7)]) hx hb dX3_readWord_18 rfl hl (by decide) rfl (fun ls hl => ?_)
    refine lv_iload_n hx hb dX3_readWord_19 rfl (lv_at hl 0 rfl) ?_
    refine lv_iload_n hx hb dX3_readWord_20 rfl (lv_at hl 3 rfl) ?_
    refine cR hP hD hS hA hE (fun hPc hDc hSc => rS (As := [.int x7]) (rest := [.int x9]) hx hb hml hown hts hK (c_X3_textOf l g x7 (bnd_ne hf)) svS_X3_textOf kw303 hPc hDc hSc rfl rfl hl.1 (Nat.le_of_ble_eq_true rfl) dX3_readWord_21 ⟨Nat.le_of_ble_eq_true rfl, Nat.le_of_ble_eq_true rfl, rfl, rfl, Nat.le_of_ble_eq_true rfl, Nat.le_of_ble_eq_true rfl⟩) [] rfl rfl rfl (fun _ => rfl) (fun x10 H locs ex10 hP hD hS => ?_)
    have hf := bnd_of hf ex10
    have hP : va_P g.1 vwCl (wX3 a0 g v0_signs v0_numbers v0_size v0_at v0_word) H := hP
    have hD : va_D A (wX3 a0 g v0_signs v0_numbers v0_size v0_at v0_word) := hD
    have hT9 := it_n hf
    have hf := it_t hT9 hf
    refine cIp hP hD hS hA hE (fun hPc hDc hSc => rVs (As := []) (rest := [.int x9]) hx hb hml hown hts hK (c_J0_length_8abf5 l g x10 (bnd_ne hf)) svV_J0_length_8abf5 kw309 hE hS hT9 hPc hDc hSc rfl rfl hl.1 (Nat.le_of_ble_eq_true rfl) dX3_readWord_24 ⟨Nat.le_of_ble_eq_true rfl, Nat.le_of_ble_eq_true rfl, rfl, rfl, Nat.le_of_ble_eq_true rfl, Nat.le_of_ble_eq_true rfl⟩) [] rfl rfl rfl (fun x11 H locs ex11 nx11 hP hS => ?_)
    have hf := bnd_of hf ex11
    refine lv_icmp_ne (tgt := 47) hx hb dX3_readWord_27 (by decide) (fun cb => ?_) (fun cb => ?_)
    · have hf := it_f cb hf
      refine lv_iload_n hx hb dX3_readWord_47 rfl (lv_at hl 2 rfl) ?_
      refine lv_iload_n hx hb dX3_readWord_48 rfl (lv_at hl 0 rfl) ?_
      refine va_mmax hx hb (hml.trans hl.1.symm) hown (hts _ kw356) (hts _ kw43) (hts _ kw4) (hts _ kw44) (Nat.le_of_ble_eq_true rfl) (Nat.le_of_ble_eq_true rfl) (Nat.zero_le _) (Nat.zero_le _) dX3_readWord_49 ?_
      obtain ⟨x12, ex12, hf⟩ := bnd hf
      refine nmI (Option.some.inj ex12) ?_
      refine lv_istore_n (lv' := [(1, .int x12), (3, .int x9), (0, .ref (a0 0)), (2, .int x7)]) hx hb dX3_readWord_52 rfl hl (by decide) rfl (fun ls hl => ?_)
      refine lv_iinc (v := (x7 + 1)) (lv' := [(2, .int (x7 + 1)), (1, .int x12), (3, .int x9), (0, .ref (a0 0))]) hx hb dX3_readWord_53 hl (k := 3) rfl (by rfl) (by decide) rfl (fun ls hl => ?_)
      refine lv_goto (tgt := 4) hx hb dX3_readWord_56 (by decide) ?_
      exact hB _ (Option.some.inj hf).symm _ _ _ hP hD hS (lv_sub hl [3, 1, 0] rfl)
    have hf := it_t cb hf
    exact hXt _ (Option.some.inj hf).symm _ _ _ hP hD hS (lv_sub hl [1, 3, 0] rfl)
  rcases r13 with x14 | x15
  · intro H locs ls hP hD hS hl
    have hP : va_P g.1 vwCl (wX3 a0 g v0_signs v0_numbers v0_size v0_at v0_word) H := hP
    have hD : va_D A (wX3 a0 g v0_signs v0_numbers v0_size v0_at v0_word) := hD
    have hl : lv_has ls 4 [(0, .ref (a0 0)), (2, .int x14.1), (3, .int x14.2)] := hl
    refine lv_aload_n hx hb dX3_readWord_30 rfl (lv_at hl 0 rfl) ?_
    refine lv_iload_n hx hb dX3_readWord_31 rfl (lv_at hl 1 rfl) ?_
    refine va_put (D := g.1) (ci := 4) (v := .int x14.1) (ty := .int) (C := RX3) (T := TX3) (N := 5) hx hb hts layX3 tyX3 tyX3_ok nmX3 hown hK.1 hP hD hS 0 rfl rfl 4 (by decide) (hts _ kw87) (fun _ h9 => h9) rfl (tyX3_ok 4 (by decide)) rfl rfl (Nat.le_of_ble_eq_true rfl) dX3_readWord_32 (fun H locs hP hD hS => ?_)
    have hP : va_P g.1 vwCl (wX3 a0 g v0_signs v0_numbers v0_size v0_at x14.1) H := hP
    have hD : va_D A (wX3 a0 g v0_signs v0_numbers v0_size v0_at x14.1) := hD
    refine lv_aload_n hx hb dX3_readWord_35 rfl (lv_at hl 0 rfl) ?_
    refine lv_dup hx hb dX3_readWord_36 rfl ?_
    refine va_get (D := g.1) (ci := 4) (v := .int v0_at) (C := RX3) (T := TX3) (N := 5) hx hb hts layX3 hown hK.1 hP 0 rfl rfl 3 (by decide) (hts _ kw86) (fun _ h9 => h9) rfl dX3_readWord_37 ?_
    refine lv_iload_n hx hb dX3_readWord_40 rfl (lv_at hl 2 rfl) ?_
    refine lv_iadd hx hb dX3_readWord_41 ?_
    refine va_put (D := g.1) (ci := 4) (v := .int (v0_at + x14.2)) (ty := .int) (C := RX3) (T := TX3) (N := 5) hx hb hts layX3 tyX3 tyX3_ok nmX3 hown hK.1 hP hD hS 0 rfl rfl 3 (by decide) (hts _ kw86) (fun _ h9 => h9) rfl (tyX3_ok 3 (by decide)) rfl rfl (Nat.le_of_ble_eq_true rfl) dX3_readWord_42 (fun H locs hP hD hS => ?_)
    have hP : va_P g.1 vwCl (wX3 a0 g v0_signs v0_numbers v0_size (v0_at + x14.2) x14.1) H := hP
    have hD : va_D A (wX3 a0 g v0_signs v0_numbers v0_size (v0_at + x14.2) x14.1) := hD
    refine lv_iconst (v := 1) hx hb dX3_readWord_45 (by decide) ?_
    exact retI (v := (1 : Int32)) (u := ((1 : Int32), (v0_at + x14.2), x14.1)) (val := fun u => u.1) (W1 := fun u => wX3 a0 g v0_signs v0_numbers v0_size u.2.1 u.2.2) hx hb hr hlocks hS hP hD (hf0.trans hf.symm) rfl rfl dX3_readWord_46
  · intro H locs ls hP hD hS hl
    have hP : va_P g.1 vwCl (wX3 a0 g v0_signs v0_numbers v0_size v0_at v0_word) H := hP
    have hD : va_D A (wX3 a0 g v0_signs v0_numbers v0_size v0_at v0_word) := hD
    have hl : lv_has ls 4 [(0, .ref (a0 0)), (1, .int x15)] := hl
    refine lv_aload_n hx hb dX3_readWord_59 rfl (lv_at hl 0 rfl) ?_
    refine lv_dup hx hb dX3_readWord_60 rfl ?_
    refine va_get (D := g.1) (ci := 4) (v := .int v0_at) (C := RX3) (T := TX3) (N := 5) hx hb hts layX3 hown hK.1 hP 0 rfl rfl 3 (by decide) (hts _ kw86) (fun _ h9 => h9) rfl dX3_readWord_61 ?_
    refine lv_iload_n hx hb dX3_readWord_64 rfl (lv_at hl 1 rfl) ?_
    refine lv_iadd hx hb dX3_readWord_65 ?_
    refine va_put (D := g.1) (ci := 4) (v := .int (v0_at + x15)) (ty := .int) (C := RX3) (T := TX3) (N := 5) hx hb hts layX3 tyX3 tyX3_ok nmX3 hown hK.1 hP hD hS 0 rfl rfl 3 (by decide) (hts _ kw86) (fun _ h9 => h9) rfl (tyX3_ok 3 (by decide)) rfl rfl (Nat.le_of_ble_eq_true rfl) dX3_readWord_66 (fun H locs hP hD hS => ?_)
    have hP : va_P g.1 vwCl (wX3 a0 g v0_signs v0_numbers v0_size (v0_at + x15) v0_word) H := hP
    have hD : va_D A (wX3 a0 g v0_signs v0_numbers v0_size (v0_at + x15) v0_word) := hD
    refine lv_iconst (v := 0) hx hb dX3_readWord_69 (by decide) ?_
    exact retI (v := (0 : Int32)) (u := ((0 : Int32), (v0_at + x15), v0_word)) (val := fun u => u.1) (W1 := fun u => wX3 a0 g v0_signs v0_numbers v0_size u.2.1 u.2.2) hx hb hr hlocks hS hP hD (hf0.trans hf.symm) rfl rfl dX3_readWord_70
set_option maxHeartbeats 4000000 in
set_option maxRecDepth 100000 in
theorem c_X3_numbersOf (l : Launch) (g : GG) (p0 : Int32) (hne : (m_X3_numbersOf p0) ≠ none) : Ct l g yX3_numbersOf cX3_numbersOf 1 (some .int) ({ frames := 0, cells := 0, slots := 0, locals := 0 } : Room) [.int p0] (([] : va_W)) (Qi g .int (m_X3_numbersOf p0) (fun u => u) (fun u => ([] : va_W))) 0 0 := by
  obtain ⟨out, hf⟩ := ne_ex hne
  have hf0 := hf
  refine Ct.of (own := RX3) (by decide +kernel) rfl (Nat.le_of_ble_eq_true rfl) ?_
  intro p e s m below meth c hx hb hr hml hown hts hlocks hin hK A H locs hA hP hD hS hE ls hl
  have hl : lv_has ls 1 [(0, .int p0)] := hl
  unfold m_X3_numbersOf at hf
  refine lv_iload_n hx hb dX3_numbersOf_0 rfl (lv_at hl 0 rfl) ?_
  by_cases c1 : p0 = (1 : Int32)
  · have hf := it_t c1 hf
    refine lv_tableIn (off := 31) (tgt := 32) hx hb dX3_numbersOf_1 (by rw [c1]; decide) (by rw [c1]; decide) (by rw [c1]; rfl) (by decide) ?_
    refine lv_iconst (v := 3) hx hb dX3_numbersOf_32 (by decide) ?_
    exact retI (v := (3 : Int32)) (u := (3 : Int32)) (val := fun u => u) (W1 := fun u => ([] : va_W)) hx hb hr hlocks hS hP hD (hf0.trans hf.symm) rfl rfl dX3_numbersOf_33
  have hf := it_f c1 hf
  by_cases c2 : p0 = (2 : Int32)
  · have hf := it_t c2 hf
    refine lv_tableIn (off := 33) (tgt := 34) hx hb dX3_numbersOf_1 (by rw [c2]; decide) (by rw [c2]; decide) (by rw [c2]; rfl) (by decide) ?_
    refine lv_iconst (v := 2) hx hb dX3_numbersOf_34 (by decide) ?_
    exact retI (v := (2 : Int32)) (u := (2 : Int32)) (val := fun u => u) (W1 := fun u => ([] : va_W)) hx hb hr hlocks hS hP hD (hf0.trans hf.symm) rfl rfl dX3_numbersOf_35
  have hf := it_f c2 hf
  by_cases c3 : p0 = (3 : Int32)
  · have hf := it_t c3 hf
    refine lv_tableIn (off := 33) (tgt := 34) hx hb dX3_numbersOf_1 (by rw [c3]; decide) (by rw [c3]; decide) (by rw [c3]; rfl) (by decide) ?_
    refine lv_iconst (v := 2) hx hb dX3_numbersOf_34 (by decide) ?_
    exact retI (v := (2 : Int32)) (u := (2 : Int32)) (val := fun u => u) (W1 := fun u => ([] : va_W)) hx hb hr hlocks hS hP hD (hf0.trans hf.symm) rfl rfl dX3_numbersOf_35
  have hf := it_f c3 hf
  by_cases c4 : p0 = (4 : Int32)
  · have hf := it_t c4 hf
    refine lv_tableIn (off := 33) (tgt := 34) hx hb dX3_numbersOf_1 (by rw [c4]; decide) (by rw [c4]; decide) (by rw [c4]; rfl) (by decide) ?_
    refine lv_iconst (v := 2) hx hb dX3_numbersOf_34 (by decide) ?_
    exact retI (v := (2 : Int32)) (u := (2 : Int32)) (val := fun u => u) (W1 := fun u => ([] : va_W)) hx hb hr hlocks hS hP hD (hf0.trans hf.symm) rfl rfl dX3_numbersOf_35
  have hf := it_f c4 hf
  refine lv_tableOut (tgt := 36) hx hb dX3_numbersOf_1 (by have q1 := lv_neT c1 (a := 1) rfl; have q2 := lv_neT c2 (a := 2) rfl; have q3 := lv_neT c3 (a := 3) rfl; have q4 := lv_neT c4 (a := 4) rfl; omega) (by decide) ?_
  refine lv_iconst (v := 1) hx hb dX3_numbersOf_36 (by decide) ?_
  exact retI (v := (1 : Int32)) (u := (1 : Int32)) (val := fun u => u) (W1 := fun u => ([] : va_W)) hx hb hr hlocks hS hP hD (hf0.trans hf.symm) rfl rfl dX3_numbersOf_37
set_option maxHeartbeats 4000000 in
set_option maxRecDepth 100000 in
theorem c_X3_isDigit (l : Launch) (g : GG) (p0 : Int32) (hne : (m_X3_isDigit p0) ≠ none) : Ct l g yX3_isDigit cX3_isDigit 1 (some .boolean) ({ frames := 0, cells := 0, slots := 0, locals := 0 } : Room) [.int p0] (([] : va_W)) (Qi g .boolean (m_X3_isDigit p0) (fun u => u) (fun u => ([] : va_W))) 0 0 := by
  obtain ⟨out, hf⟩ := ne_ex hne
  have hf0 := hf
  refine Ct.of (own := RX3) (by decide +kernel) rfl (Nat.le_of_ble_eq_true rfl) ?_
  intro p e s m below meth c hx hb hr hml hown hts hlocks hin hK A H locs hA hP hD hS hE ls hl
  have hl : lv_has ls 1 [(0, .int p0)] := hl
  unfold m_X3_isDigit at hf
  refine lv_iload_n hx hb dX3_isDigit_0 rfl (lv_at hl 0 rfl) ?_
  refine lv_bipush (v := 48) hx hb dX3_isDigit_1 (by decide) ?_
  refine lv_icmp_lt (tgt := 16) hx hb dX3_isDigit_3 (by decide) (fun cb => ?_) (fun cb => ?_)
  · have hf := it_t cb hf
    refine lv_iconst (v := 0) hx hb dX3_isDigit_16 (by decide) ?_
    exact retI (v := (0 : Int32)) (u := (0 : Int32)) (val := fun u => u) (W1 := fun u => ([] : va_W)) hx hb hr hlocks hS hP hD (hf0.trans hf.symm) rfl rfl dX3_isDigit_17
  have hf := it_f cb hf
  refine lv_iload_n hx hb dX3_isDigit_6 rfl (lv_at hl 0 rfl) ?_
  refine lv_bipush (v := 57) hx hb dX3_isDigit_7 (by decide) ?_
  refine lv_icmp_gt (tgt := 16) hx hb dX3_isDigit_9 (by decide) (fun cb => ?_) (fun cb => ?_)
  · have hf := it_t cb hf
    refine lv_iconst (v := 0) hx hb dX3_isDigit_16 (by decide) ?_
    exact retI (v := (0 : Int32)) (u := (0 : Int32)) (val := fun u => u) (W1 := fun u => ([] : va_W)) hx hb hr hlocks hS hP hD (hf0.trans hf.symm) rfl rfl dX3_isDigit_17
  have hf := it_f cb hf
  refine lv_iconst (v := 1) hx hb dX3_isDigit_12 (by decide) ?_
  refine lv_goto (tgt := 17) hx hb dX3_isDigit_13 (by decide) ?_
  exact retI (v := (1 : Int32)) (u := (1 : Int32)) (val := fun u => u) (W1 := fun u => ([] : va_W)) hx hb hr hlocks hS hP hD (hf0.trans hf.symm) rfl rfl dX3_isDigit_17
set_option maxHeartbeats 4000000 in
set_option maxRecDepth 100000 in
theorem c_X3_readNumbers (l : Launch) (g : GG) (a0 : Nat → Nat) (v0_signs : (Nat → Int32)) (v0_numbers : (Nat → Int32)) (v0_size : Int32) (v0_at : Int32) (v0_word : Int32) (hne : (m_X3_readNumbers (v0_signs, v0_numbers, v0_size, v0_at, v0_word)) ≠ none) : Ct l g yX3_readNumbers cX3_readNumbers 3 (some .boolean) ({ frames := 2, cells := 0, slots := 0, locals := 42 } : Room) [.ref (a0 0)] (wX3 a0 g v0_signs v0_numbers v0_size v0_at v0_word) (Qi g .boolean (m_X3_readNumbers (v0_signs, v0_numbers, v0_size, v0_at, v0_word)) (fun u => u.1) (fun u => wX3 a0 g v0_signs u.2.1 v0_size u.2.2 v0_word)) 0 0 := by
  obtain ⟨out, hf⟩ := ne_ex hne
  have hf0 := hf
  refine Ct.of (own := RX3) (by decide +kernel) rfl (Nat.le_of_ble_eq_true rfl) ?_
  intro p e s m below meth c hx hb hr hml hown hts hlocks hin hK A H locs hA hP hD hS hE ls hl
  have hl : lv_has ls 3 [(0, .ref (a0 0))] := hl
  unfold m_X3_readNumbers at hf
  refine lv_iconst (v := 0) hx hb dX3_readNumbers_0 (by decide) ?_
  refine lv_istore_n (lv' := [(1, .int (0 : Int32)), (0, .ref (a0 0))]) hx hb dX3_readNumbers_1 rfl hl (by decide) rfl (fun ls hl => ?_)
  obtain ⟨r30, er30, hf⟩ := bnd hf
  refine lp_W (P := fun z => ∀ (H : Heap) (locs : List Loc) (ls : Array Slot), va_P g.1 vwCl (wX3 a0 g v0_signs z.2.1 v0_size z.2.2 v0_word) H → va_D A (wX3 a0 g v0_signs z.2.1 v0_size z.2.2 v0_word) → va_S A s.heap H locs → lv_has ls 3 [(0, .ref (a0 0)), (1, .int z.1)] → W p l e { frames := 2, cells := 0, slots := 0, locals := 42 } s m [.ref (a0 0)].toArray below meth c H locs 0 0 (MQ below (Qi g .boolean (m_X3_readNumbers (v0_signs, v0_numbers, v0_size, v0_at, v0_word)) (fun u => u.1) (fun u => wX3 a0 g v0_signs u.2.1 v0_size u.2.2 v0_word) A) [.ref (a0 0)].toArray s 0 0 A) (F0 m 2 ls [])) (E := fun r30 => match r30 with | .inl x31 => (∀ (H : Heap) (locs : List Loc) (ls : Array Slot), va_P g.1 vwCl (wX3 a0 g v0_signs x31.1 v0_size x31.2 v0_word) H → va_D A (wX3 a0 g v0_signs x31.1 v0_size x31.2 v0_word) → va_S A s.heap H locs → lv_has ls 3 [] → W p l e { frames := 2, cells := 0, slots := 0, locals := 42 } s m [.ref (a0 0)].toArray below meth c H locs 0 0 (MQ below (Qi g .boolean (m_X3_readNumbers (v0_signs, v0_numbers, v0_size, v0_at, v0_word)) (fun u => u.1) (fun u => wX3 a0 g v0_signs u.2.1 v0_size u.2.2 v0_word) A) [.ref (a0 0)].toArray s 0 0 A) (F0 m 26 ls [])) | .inr (.inl x32) => (∀ (H : Heap) (locs : List Loc) (ls : Array Slot), va_P g.1 vwCl (wX3 a0 g v0_signs x32.1 v0_size x32.2 v0_word) H → va_D A (wX3 a0 g v0_signs x32.1 v0_size x32.2 v0_word) → va_S A s.heap H locs → lv_has ls 3 [] → W p l e { frames := 2, cells := 0, slots := 0, locals := 42 } s m [.ref (a0 0)].toArray below meth c H locs 0 0 (MQ below (Qi g .boolean (m_X3_readNumbers (v0_signs, v0_numbers, v0_size, v0_at, v0_word)) (fun u => u.1) (fun u => wX3 a0 g v0_signs u.2.1 v0_size u.2.2 v0_word) A) [.ref (a0 0)].toArray s 0 0 A) (F0 m 52 ls [])) | .inr (.inr x33) => (∀ (H : Heap) (locs : List Loc) (ls : Array Slot), va_P g.1 vwCl (wX3 a0 g v0_signs x33.1 v0_size x33.2 v0_word) H → va_D A (wX3 a0 g v0_signs x33.1 v0_size x33.2 v0_word) → va_S A s.heap H locs → lv_has ls 3 [] → W p l e { frames := 2, cells := 0, slots := 0, locals := 42 } s m [.ref (a0 0)].toArray below meth c H locs 0 0 (MQ below (Qi g .boolean (m_X3_readNumbers (v0_signs, v0_numbers, v0_size, v0_at, v0_word)) (fun u => u.1) (fun u => wX3 a0 g v0_signs u.2.1 v0_size u.2.2 v0_word) A) [.ref (a0 0)].toArray s 0 0 A) (F0 m 132 ls []))) ?_ fu _ r30 er30 ?_ _ _ _ hP hD hS (lv_sub hl [1, 0] rfl)
  · rintro ⟨x14, x15, x16⟩ y hf hB hXt H locs ls hP hD hS hl
    have hP : va_P g.1 vwCl (wX3 a0 g v0_signs x15 v0_size x16 v0_word) H := hP
    have hD : va_D A (wX3 a0 g v0_signs x15 v0_size x16 v0_word) := hD
    have hl : lv_has ls 3 [(0, .ref (a0 0)), (1, .int x14)] := hl
    have hf : m_X3_readNumbers_l2 (v0_signs, v0_numbers, v0_size, v0_at, v0_word) x14 x15 x16 = some y := hf
    unfold m_X3_readNumbers_l2 at hf
    refine lv_iload_n hx hb dX3_readNumbers_2 rfl (lv_at hl 1 rfl) ?_
    refine lv_aload_n hx hb dX3_readNumbers_3 rfl (lv_at hl 0 rfl) ?_
    refine va_get (D := g.1) (ci := 4) (v := .int v0_word) (C := RX3) (T := TX3) (N := 5) hx hb hts layX3 hown hK.1 hP 0 rfl rfl 4 (by decide) (hts _ kw87) (fun _ h9 => h9) rfl dX3_readNumbers_4 ?_
    refine cIp hP hD hS hA hE (fun hPc hDc hSc => rS (As := [.int v0_word]) (rest := [.int x14]) hx hb hml hown hts hK (c_X3_numbersOf l g v0_word (bnd_ne hf)) svS_X3_numbersOf kw360 hPc hDc hSc rfl rfl hl.1 (Nat.le_of_ble_eq_true rfl) dX3_readNumbers_7 ⟨Nat.le_of_ble_eq_true rfl, Nat.le_of_ble_eq_true rfl, rfl, rfl, Nat.le_of_ble_eq_true rfl, Nat.le_of_ble_eq_true rfl⟩) [] rfl rfl rfl (fun x17 H locs ex17 nx17 hP hS => ?_)
    have hf := bnd_of hf ex17
    refine lv_icmp_ge (tgt := 132) hx hb dX3_readNumbers_10 (by decide) (fun cb => ?_) (fun cb => ?_)
    · have hf := it_t cb hf
      exact hXt _ (Option.some.inj hf).symm _ _ _ hP hD hS (lv_sub hl [] rfl)
    have hf := it_f cb hf
    refine lv_aload_n hx hb dX3_readNumbers_13 rfl (lv_at hl 0 rfl) ?_
    refine lv_aload_n hx hb dX3_readNumbers_14 rfl (lv_at hl 0 rfl) ?_
    refine va_get (D := g.1) (ci := 4) (v := .int x16) (C := RX3) (T := TX3) (N := 5) hx hb hts layX3 hown hK.1 hP 0 rfl rfl 3 (by decide) (hts _ kw86) (fun _ h9 => h9) rfl dX3_readNumbers_15 ?_
    refine cIp hP hD hS hA hE (fun hPc hDc hSc => rV (As := [.int x16]) (rest := []) hx hb hml hown hts hK (c_X3_signAt l g a0 v0_signs x15 v0_size x16 v0_word x16 (bnd_ne hf)) svV_X3_signAt kw318 rfl rfl hPc hDc hSc rfl rfl hl.1 (Nat.le_of_ble_eq_true rfl) dX3_readNumbers_18 ⟨Nat.le_of_ble_eq_true rfl, Nat.le_of_ble_eq_true rfl, rfl, rfl, Nat.le_of_ble_eq_true rfl, Nat.le_of_ble_eq_true rfl⟩) [(0, 5)] rfl rfl rfl (fun x18 H locs ex18 nx18 hP hS => ?_)
    have hf := bnd_of hf ex18
    refine lv_bipush (v := 32) hx hb dX3_readNumbers_21 (by decide) ?_
    refine lv_icmp_eq (tgt := 28) hx hb dX3_readNumbers_23 (by decide) (fun cb => ?_) (fun cb => ?_)
    · have hf := it_t cb hf
      refine lv_aload_n hx hb dX3_readNumbers_28 rfl (lv_at hl 0 rfl) ?_
      refine lv_dup hx hb dX3_readNumbers_29 rfl ?_
      refine va_get (D := g.1) (ci := 4) (v := .int x16) (C := RX3) (T := TX3) (N := 5) hx hb hts layX3 hown hK.1 hP 0 rfl rfl 3 (by decide) (hts _ kw86) (fun _ h9 => h9) rfl dX3_readNumbers_30 ?_
      refine lv_iconst (v := 1) hx hb dX3_readNumbers_33 (by decide) ?_
      refine lv_iadd hx hb dX3_readNumbers_34 ?_
      refine va_put (D := g.1) (ci := 4) (v := .int (x16 + (1 : Int32))) (ty := .int) (C := RX3) (T := TX3) (N := 5) hx hb hts layX3 tyX3 tyX3_ok nmX3 hown hK.1 hP hD hS 0 rfl rfl 3 (by decide) (hts _ kw86) (fun _ h9 => h9) rfl (tyX3_ok 3 (by decide)) rfl rfl (Nat.le_of_ble_eq_true rfl) dX3_readNumbers_35 (fun H locs hP hD hS => ?_)
      have hP : va_P g.1 vwCl (wX3 a0 g v0_signs x15 v0_size (x16 + (1 : Int32)) v0_word) H := hP
      have hD : va_D A (wX3 a0 g v0_signs x15 v0_size (x16 + (1 : Int32)) v0_word) := hD
      refine lv_aload_n hx hb dX3_readNumbers_38 rfl (lv_at hl 0 rfl) ?_
      refine lv_aload_n hx hb dX3_readNumbers_39 rfl (lv_at hl 0 rfl) ?_
      refine va_get (D := g.1) (ci := 4) (v := .int (x16 + (1 : Int32))) (C := RX3) (T := TX3) (N := 5) hx hb hts layX3 hown hK.1 hP 0 rfl rfl 3 (by decide) (hts _ kw86) (fun _ h9 => h9) rfl dX3_readNumbers_40 ?_
      refine cIp hP hD hS hA hE (fun hPc hDc hSc => rV (As := [.int (x16 + (1 : Int32))]) (rest := []) hx hb hml hown hts hK (c_X3_signAt l g a0 v0_signs x15 v0_size (x16 + (1 : Int32)) v0_word (x16 + (1 : Int32)) (bnd_ne hf)) svV_X3_signAt kw318 rfl rfl hPc hDc hSc rfl rfl hl.1 (Nat.le_of_ble_eq_true rfl) dX3_readNumbers_43 ⟨Nat.le_of_ble_eq_true rfl, Nat.le_of_ble_eq_true rfl, rfl, rfl, Nat.le_of_ble_eq_true rfl, Nat.le_of_ble_eq_true rfl⟩) [(0, 5)] rfl rfl rfl (fun x19 H locs ex19 nx19 hP hS => ?_)
      have hf := bnd_of hf ex19
      refine cIp hP hD hS hA hE (fun hPc hDc hSc => rS (As := [.int x19]) (rest := []) hx hb hml hown hts hK (c_X3_isDigit l g x19 (bnd_ne hf)) svS_X3_isDigit kw363 hPc hDc hSc rfl rfl hl.1 (Nat.le_of_ble_eq_true rfl) dX3_readNumbers_46 ⟨Nat.le_of_ble_eq_true rfl, Nat.le_of_ble_eq_true rfl, rfl, rfl, Nat.le_of_ble_eq_true rfl, Nat.le_of_ble_eq_true rfl⟩) [] rfl rfl rfl (fun x20 H locs ex20 nx20 hP hS => ?_)
      have hf := bnd_of hf ex20
      refine lv_if_ne (tgt := 54) hx hb dX3_readNumbers_49 (by decide) (fun cb => ?_) (fun cb => ?_)
      · have hf := it_f cb hf
        refine lv_aload_n hx hb dX3_readNumbers_54 rfl (lv_at hl 0 rfl) ?_
        refine lv_aload_n hx hb dX3_readNumbers_55 rfl (lv_at hl 0 rfl) ?_
        refine va_get (D := g.1) (ci := 4) (v := .int (x16 + (1 : Int32))) (C := RX3) (T := TX3) (N := 5) hx hb hts layX3 hown hK.1 hP 0 rfl rfl 3 (by decide) (hts _ kw86) (fun _ h9 => h9) rfl dX3_readNumbers_56 ?_
        refine cIp hP hD hS hA hE (fun hPc hDc hSc => rV (As := [.int (x16 + (1 : Int32))]) (rest := []) hx hb hml hown hts hK (c_X3_signAt l g a0 v0_signs x15 v0_size (x16 + (1 : Int32)) v0_word (x16 + (1 : Int32)) (bnd_ne hf)) svV_X3_signAt kw318 rfl rfl hPc hDc hSc rfl rfl hl.1 (Nat.le_of_ble_eq_true rfl) dX3_readNumbers_59 ⟨Nat.le_of_ble_eq_true rfl, Nat.le_of_ble_eq_true rfl, rfl, rfl, Nat.le_of_ble_eq_true rfl, Nat.le_of_ble_eq_true rfl⟩) [(0, 5)] rfl rfl rfl (fun x21 H locs ex21 nx21 hP hS => ?_)
        have hf := bnd_of hf ex21
        refine lv_bipush (v := 48) hx hb dX3_readNumbers_62 (by decide) ?_
        refine lv_isub hx hb dX3_readNumbers_64 ?_
        refine lv_istore_n (lv' := [(2, .int (x21 - (48 : Int32))), (0, .ref (a0 0)), (1, .int x14)]) hx hb dX3_readNumbers_65 rfl hl (by decide) rfl (fun ls hl => ?_)
        refine lv_aload_n hx hb dX3_readNumbers_66 rfl (lv_at hl 1 rfl) ?_
        refine lv_dup hx hb dX3_readNumbers_67 rfl ?_
        refine va_get (D := g.1) (ci := 4) (v := .int (x16 + (1 : Int32))) (C := RX3) (T := TX3) (N := 5) hx hb hts layX3 hown hK.1 hP 0 rfl rfl 3 (by decide) (hts _ kw86) (fun _ h9 => h9) rfl dX3_readNumbers_68 ?_
        refine lv_iconst (v := 1) hx hb dX3_readNumbers_71 (by decide) ?_
        refine lv_iadd hx hb dX3_readNumbers_72 ?_
        refine va_put (D := g.1) (ci := 4) (v := .int ((x16 + (1 : Int32)) + (1 : Int32))) (ty := .int) (C := RX3) (T := TX3) (N := 5) hx hb hts layX3 tyX3 tyX3_ok nmX3 hown hK.1 hP hD hS 0 rfl rfl 3 (by decide) (hts _ kw86) (fun _ h9 => h9) rfl (tyX3_ok 3 (by decide)) rfl rfl (Nat.le_of_ble_eq_true rfl) dX3_readNumbers_73 (fun H locs hP hD hS => ?_)
        have hP : va_P g.1 vwCl (wX3 a0 g v0_signs x15 v0_size ((x16 + (1 : Int32)) + (1 : Int32)) v0_word) H := hP
        have hD : va_D A (wX3 a0 g v0_signs x15 v0_size ((x16 + (1 : Int32)) + (1 : Int32)) v0_word) := hD
        refine lv_aload_n hx hb dX3_readNumbers_76 rfl (lv_at hl 1 rfl) ?_
        refine lv_aload_n hx hb dX3_readNumbers_77 rfl (lv_at hl 1 rfl) ?_
        refine va_get (D := g.1) (ci := 4) (v := .int ((x16 + (1 : Int32)) + (1 : Int32))) (C := RX3) (T := TX3) (N := 5) hx hb hts layX3 hown hK.1 hP 0 rfl rfl 3 (by decide) (hts _ kw86) (fun _ h9 => h9) rfl dX3_readNumbers_78 ?_
        refine cIp hP hD hS hA hE (fun hPc hDc hSc => rV (As := [.int ((x16 + (1 : Int32)) + (1 : Int32))]) (rest := []) hx hb hml hown hts hK (c_X3_signAt l g a0 v0_signs x15 v0_size ((x16 + (1 : Int32)) + (1 : Int32)) v0_word ((x16 + (1 : Int32)) + (1 : Int32)) (bnd_ne hf)) svV_X3_signAt kw318 rfl rfl hPc hDc hSc rfl rfl hl.1 (Nat.le_of_ble_eq_true rfl) dX3_readNumbers_81 ⟨Nat.le_of_ble_eq_true rfl, Nat.le_of_ble_eq_true rfl, rfl, rfl, Nat.le_of_ble_eq_true rfl, Nat.le_of_ble_eq_true rfl⟩) [(0, 5)] rfl rfl rfl (fun x22 H locs ex22 nx22 hP hS => ?_)
        have hf := bnd_of hf ex22
        refine cIp hP hD hS hA hE (fun hPc hDc hSc => rS (As := [.int x22]) (rest := []) hx hb hml hown hts hK (c_X3_isDigit l g x22 (bnd_ne hf)) svS_X3_isDigit kw363 hPc hDc hSc rfl rfl hl.1 (Nat.le_of_ble_eq_true rfl) dX3_readNumbers_84 ⟨Nat.le_of_ble_eq_true rfl, Nat.le_of_ble_eq_true rfl, rfl, rfl, Nat.le_of_ble_eq_true rfl, Nat.le_of_ble_eq_true rfl⟩) [] rfl rfl rfl (fun x23 H locs ex23 nx23 hP hS => ?_)
        have hf := bnd_of hf ex23
        obtain ⟨r26, er26, hf⟩ := bnd hf
        have K : ∀ (H : Heap) (locs : List Loc) (ls : Array Slot), va_P g.1 vwCl (wX3 a0 g v0_signs x15 v0_size r26.2 v0_word) H → va_D A (wX3 a0 g v0_signs x15 v0_size r26.2 v0_word) → va_S A s.heap H locs → lv_has ls 3 [(0, .ref (a0 0)), (1, .int x14), (2, .int r26.1)] → W p l e { frames := 2, cells := 0, slots := 0, locals := 42 } s m [.ref (a0 0)].toArray below meth c H locs 0 0 (MQ below (Qi g .boolean (m_X3_readNumbers (v0_signs, v0_numbers, v0_size, v0_at, v0_word)) (fun u => u.1) (fun u => wX3 a0 g v0_signs u.2.1 v0_size u.2.2 v0_word) A) [.ref (a0 0)].toArray s 0 0 A) (F0 m 117 ls []) := by
          intro H locs ls hP hD hS hl
          refine lv_aload_n hx hb dX3_readNumbers_117 rfl (lv_at hl 0 rfl) ?_
          refine va_get (D := g.1) (ci := 4) (v := .ref (a0 3)) (C := RX3) (T := TX3) (N := 5) hx hb hts layX3 hown hK.1 hP 0 rfl rfl 1 (by decide) (hts _ kw84) (fun _ h9 => h9) rfl dX3_readNumbers_118 ?_
          refine lv_iload_n hx hb dX3_readNumbers_121 rfl (lv_at hl 1 rfl) ?_
          refine lv_iload_n hx hb dX3_readNumbers_122 rfl (lv_at hl 2 rfl) ?_
          refine cV hP hD hS hA hE (fun hPc hDc hSc => rV (As := [.int x14, .int r26.1]) (rest := []) hx hb hml hown hts hK (c_X2_set l g (fun i => a0 (i + 3)) 3 x15 x14 r26.1 (bnd_ne hf)) svV_X2_set kw283 rfl rfl hPc hDc hSc rfl rfl hl.1 (Nat.le_of_ble_eq_true rfl) dX3_readNumbers_123 ⟨Nat.le_of_ble_eq_true rfl, Nat.le_of_ble_eq_true rfl, rfl, rfl, Nat.le_of_ble_eq_true rfl, Nat.le_of_ble_eq_true rfl⟩) [(3, 2)] rfl rfl rfl (fun _ => rfl) (fun x27 H locs ex27 hP hD hS => ?_)
          have hf := bnd_of hf ex27
          have hP : va_P g.1 vwCl (wX3 a0 g v0_signs x27 v0_size r26.2 v0_word) H := hP
          have hD : va_D A (wX3 a0 g v0_signs x27 v0_size r26.2 v0_word) := hD
          refine lv_iinc (v := (x14 + 1)) (lv' := [(1, .int (x14 + 1)), (0, .ref (a0 0)), (2, .int r26.1)]) hx hb dX3_readNumbers_126 hl (k := 1) rfl (by rfl) (by decide) rfl (fun ls hl => ?_)
          refine lv_goto (tgt := 2) hx hb dX3_readNumbers_129 (by decide) ?_
          exact hB _ (Option.some.inj hf).symm _ _ _ hP hD hS (lv_sub hl [1, 0] rfl)
        have hf := er26
        refine lv_if_eq (tgt := 117) hx hb dX3_readNumbers_87 (by decide) (fun cb => ?_) (fun cb => ?_)
        · have hf := it_t cb hf
          have hq := Option.some.inj hf
          subst hq
          exact K _ _ _ hP hD hS (lv_sub hl [1, 2, 0] rfl)
        have hf := it_f cb hf
        refine lv_bipush (v := 10) hx hb dX3_readNumbers_90 (by decide) ?_
        refine lv_iload_n hx hb dX3_readNumbers_92 rfl (lv_at hl 0 rfl) ?_
        refine lv_imul hx hb dX3_readNumbers_93 ?_
        refine lv_aload_n hx hb dX3_readNumbers_94 rfl (lv_at hl 1 rfl) ?_
        refine lv_aload_n hx hb dX3_readNumbers_95 rfl (lv_at hl 1 rfl) ?_
        refine va_get (D := g.1) (ci := 4) (v := .int ((x16 + (1 : Int32)) + (1 : Int32))) (C := RX3) (T := TX3) (N := 5) hx hb hts layX3 hown hK.1 hP 0 rfl rfl 3 (by decide) (hts _ kw86) (fun _ h9 => h9) rfl dX3_readNumbers_96 ?_
        refine cIp hP hD hS hA hE (fun hPc hDc hSc => rV (As := [.int ((x16 + (1 : Int32)) + (1 : Int32))]) (rest := [.int ((10 : Int32) * (x21 - (48 : Int32)))]) hx hb hml hown hts hK (c_X3_signAt l g a0 v0_signs x15 v0_size ((x16 + (1 : Int32)) + (1 : Int32)) v0_word ((x16 + (1 : Int32)) + (1 : Int32)) (bnd_ne hf)) svV_X3_signAt kw318 rfl rfl hPc hDc hSc rfl rfl hl.1 (Nat.le_of_ble_eq_true rfl) dX3_readNumbers_99 ⟨Nat.le_of_ble_eq_true rfl, Nat.le_of_ble_eq_true rfl, rfl, rfl, Nat.le_of_ble_eq_true rfl, Nat.le_of_ble_eq_true rfl⟩) [(0, 5)] rfl rfl rfl (fun x28 H locs ex28 nx28 hP hS => ?_)
        have hf := bnd_of hf ex28
        refine lv_iadd hx hb dX3_readNumbers_102 ?_
        refine lv_bipush (v := 48) hx hb dX3_readNumbers_103 (by decide) ?_
        refine lv_isub hx hb dX3_readNumbers_105 ?_
        obtain ⟨x29, ex29, hf⟩ := bnd hf
        refine nmI (Option.some.inj ex29) ?_
        refine lv_istore_n (lv' := [(2, .int x29), (0, .ref (a0 0)), (1, .int x14)]) hx hb dX3_readNumbers_106 rfl hl (by decide) rfl (fun ls hl => ?_)
        refine lv_aload_n hx hb dX3_readNumbers_107 rfl (lv_at hl 1 rfl) ?_
        refine lv_dup hx hb dX3_readNumbers_108 rfl ?_
        refine va_get (D := g.1) (ci := 4) (v := .int ((x16 + (1 : Int32)) + (1 : Int32))) (C := RX3) (T := TX3) (N := 5) hx hb hts layX3 hown hK.1 hP 0 rfl rfl 3 (by decide) (hts _ kw86) (fun _ h9 => h9) rfl dX3_readNumbers_109 ?_
        refine lv_iconst (v := 1) hx hb dX3_readNumbers_112 (by decide) ?_
        refine lv_iadd hx hb dX3_readNumbers_113 ?_
        refine va_put (D := g.1) (ci := 4) (v := .int (((x16 + (1 : Int32)) + (1 : Int32)) + (1 : Int32))) (ty := .int) (C := RX3) (T := TX3) (N := 5) hx hb hts layX3 tyX3 tyX3_ok nmX3 hown hK.1 hP hD hS 0 rfl rfl 3 (by decide) (hts _ kw86) (fun _ h9 => h9) rfl (tyX3_ok 3 (by decide)) rfl rfl (Nat.le_of_ble_eq_true rfl) dX3_readNumbers_114 (fun H locs hP hD hS => ?_)
        have hP : va_P g.1 vwCl (wX3 a0 g v0_signs x15 v0_size (((x16 + (1 : Int32)) + (1 : Int32)) + (1 : Int32)) v0_word) H := hP
        have hD : va_D A (wX3 a0 g v0_signs x15 v0_size (((x16 + (1 : Int32)) + (1 : Int32)) + (1 : Int32)) v0_word) := hD
        have hq := Option.some.inj hf
        subst hq
        exact K _ _ _ hP hD hS (lv_sub hl [1, 2, 0] rfl)
      have hf := it_t cb hf
      exact hXt _ (Option.some.inj hf).symm _ _ _ hP hD hS (lv_sub hl [] rfl)
    have hf := it_f cb hf
    exact hXt _ (Option.some.inj hf).symm _ _ _ hP hD hS (lv_sub hl [] rfl)
  rcases r30 with x31 | x32 | x33
  · intro H locs ls hP hD hS hl
    have hP : va_P g.1 vwCl (wX3 a0 g v0_signs x31.1 v0_size x31.2 v0_word) H := hP
    have hD : va_D A (wX3 a0 g v0_signs x31.1 v0_size x31.2 v0_word) := hD
    have hl : lv_has ls 3 [] := hl
    refine lv_iconst (v := 0) hx hb dX3_readNumbers_26 (by decide) ?_
    exact retI (v := (0 : Int32)) (u := ((0 : Int32), x31.1, x31.2)) (val := fun u => u.1) (W1 := fun u => wX3 a0 g v0_signs u.2.1 v0_size u.2.2 v0_word) hx hb hr hlocks hS hP hD (hf0.trans hf.symm) rfl rfl dX3_readNumbers_27
  · intro H locs ls hP hD hS hl
    have hP : va_P g.1 vwCl (wX3 a0 g v0_signs x32.1 v0_size x32.2 v0_word) H := hP
    have hD : va_D A (wX3 a0 g v0_signs x32.1 v0_size x32.2 v0_word) := hD
    have hl : lv_has ls 3 [] := hl
    refine lv_iconst (v := 0) hx hb dX3_readNumbers_52 (by decide) ?_
    exact retI (v := (0 : Int32)) (u := ((0 : Int32), x32.1, x32.2)) (val := fun u => u.1) (W1 := fun u => wX3 a0 g v0_signs u.2.1 v0_size u.2.2 v0_word) hx hb hr hlocks hS hP hD (hf0.trans hf.symm) rfl rfl dX3_readNumbers_53
  · intro H locs ls hP hD hS hl
    have hP : va_P g.1 vwCl (wX3 a0 g v0_signs x33.1 v0_size x33.2 v0_word) H := hP
    have hD : va_D A (wX3 a0 g v0_signs x33.1 v0_size x33.2 v0_word) := hD
    have hl : lv_has ls 3 [] := hl
    refine lv_iconst (v := 1) hx hb dX3_readNumbers_132 (by decide) ?_
    exact retI (v := (1 : Int32)) (u := ((1 : Int32), x33.1, x33.2)) (val := fun u => u.1) (W1 := fun u => wX3 a0 g v0_signs u.2.1 v0_size u.2.2 v0_word) hx hb hr hlocks hS hP hD (hf0.trans hf.symm) rfl rfl dX3_readNumbers_133
