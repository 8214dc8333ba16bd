theorem svS_X3_textOf : SS RX3 yX3_textOf cX3_textOf 1 (Option.some (Jvm.ClassFile.FieldType.object RJ0)) 1 := ⟨kw304, kw5, kw305, rfl, by decide, by decide, by decide +kernel⟩
theorem svV_J0_coder_7d493 : SV RJ0 yJ0_coder_7d493 cJ0_coder_7d493 1 (some .byte) 0 := ⟨kw314, kw315, kw14, kw316, rfl, by decide, by decide, by decide +kernel⟩
theorem svV_J0_length_8abf5 : SV RJ0 yJ0_length_8abf5 cJ0_length_8abf5 1 (some .int) 0 := ⟨kw310, kw311, kw14, kw312, rfl, by decide, by decide, by decide +kernel⟩
theorem svV_X3_signAt : SV RX3 yX3_signAt cX3_signAt 2 (some .int) 1 := ⟨kw319, kw1791, kw5, kw320, rfl, by decide, by decide, by decide +kernel⟩
theorem svV_J0_isLatin1_aae02 : SV RJ0 yJ0_isLatin1_aae02 cJ0_isLatin1_aae02 1 (some .boolean) 0 := ⟨kw327, kw328, kw14, kw329, rfl, by decide, by decide, by decide +kernel⟩
theorem svS_J3_checkIndex_8e157 : SS RJ3 yJ3_checkIndex_8e157 cJ3_checkIndex_8e157 3 (some .int) 3 := ⟨kw338, kw18, kw339, rfl, by decide, by decide, by decide +kernel⟩
theorem svS_J0_checkIndex_df160 : SS RJ0 yJ0_checkIndex_df160 cJ0_checkIndex_df160 2 none 2 := ⟨kw334, kw14, kw335, rfl, by decide, by decide, by decide +kernel⟩
theorem svS_J1_charAt_3b067 : SS RJ1 yJ1_charAt_3b067 cJ1_charAt_3b067 2 (some .char) 2 := ⟨kw331, kw17, kw332, rfl, by decide, by decide, by decide +kernel⟩
theorem svV_J0_charAt_5068e : SV RJ0 yJ0_charAt_5068e cJ0_charAt_5068e 2 (some .char) 1 := ⟨kw323, kw324, kw14, kw325, rfl, by decide, by decide, by decide +kernel⟩
theorem svV_X3_alikeWith : SV RX3 yX3_alikeWith cX3_alikeWith 3 (some .int) 1 := ⟨kw307, kw1790, kw5, kw308, rfl, by decide, by decide, by decide +kernel⟩
theorem svS_X3_numbersOf : SS RX3 yX3_numbersOf cX3_numbersOf 1 (some .int) 1 := ⟨kw361, kw5, kw362, rfl, by decide, by decide, by decide +kernel⟩
theorem svS_X3_isDigit : SS RX3 yX3_isDigit cX3_isDigit 1 (some .boolean) 1 := ⟨kw364, kw5, kw365, rfl, by decide, by decide, by decide +kernel⟩
theorem dX3_textOf_0 : decode cX3_textOf 0 = .ok (.iload_n 0, 1) := by decide +kernel
theorem dX3_textOf_1 : decode cX3_textOf 1 = .ok (.tableswitch 64 0 6 #[43, 46, 49, 52, 55, 58, 61], 43) := by decide +kernel
theorem dX3_textOf_44 : decode cX3_textOf 44 = .ok (.ldc 94, 2) := by decide +kernel
theorem dX3_textOf_46 : decode cX3_textOf 46 = .ok (.areturn, 1) := by decide +kernel
theorem dX3_textOf_47 : decode cX3_textOf 47 = .ok (.ldc 96, 2) := by decide +kernel
theorem dX3_textOf_49 : decode cX3_textOf 49 = .ok (.areturn, 1) := by decide +kernel
theorem dX3_textOf_50 : decode cX3_textOf 50 = .ok (.ldc 98, 2) := by decide +kernel
theorem dX3_textOf_52 : decode cX3_textOf 52 = .ok (.areturn, 1) := by decide +kernel
theorem dX3_textOf_53 : decode cX3_textOf 53 = .ok (.ldc 100, 2) := by decide +kernel
theorem dX3_textOf_55 : decode cX3_textOf 55 = .ok (.areturn, 1) := by decide +kernel
theorem dX3_textOf_56 : decode cX3_textOf 56 = .ok (.ldc 102, 2) := by decide +kernel
theorem dX3_textOf_58 : decode cX3_textOf 58 = .ok (.areturn, 1) := by decide +kernel
theorem dX3_textOf_59 : decode cX3_textOf 59 = .ok (.ldc 104, 2) := by decide +kernel
theorem dX3_textOf_61 : decode cX3_textOf 61 = .ok (.areturn, 1) := by decide +kernel
theorem dX3_textOf_62 : decode cX3_textOf 62 = .ok (.ldc 106, 2) := by decide +kernel
theorem dX3_textOf_64 : decode cX3_textOf 64 = .ok (.areturn, 1) := by decide +kernel
theorem dX3_textOf_65 : decode cX3_textOf 65 = .ok (.ldc 108, 2) := by decide +kernel
theorem dX3_textOf_67 : decode cX3_textOf 67 = .ok (.areturn, 1) := by decide +kernel
theorem dJ0_coder_7d493_0 : decode cJ0_coder_7d493 0 = .ok (.getstatic 38, 3) := by decide +kernel
theorem dJ0_coder_7d493_3 : decode cJ0_coder_7d493 3 = .ok (.ifCond .eq 10, 3) := by decide +kernel
theorem dJ0_coder_7d493_6 : decode cJ0_coder_7d493 6 = .ok (.aload_n 0, 1) := by decide +kernel
theorem dJ0_coder_7d493_7 : decode cJ0_coder_7d493 7 = .ok (.getfield 15, 3) := by decide +kernel
theorem dJ0_coder_7d493_10 : decode cJ0_coder_7d493 10 = .ok (.goto 4, 3) := by decide +kernel
theorem dJ0_coder_7d493_14 : decode cJ0_coder_7d493 14 = .ok (.ireturn, 1) := by decide +kernel
theorem dJ0_length_8abf5_0 : decode cJ0_length_8abf5 0 = .ok (.aload_n 0, 1) := by decide +kernel
theorem dJ0_length_8abf5_1 : decode cJ0_length_8abf5 1 = .ok (.getfield 9, 3) := by decide +kernel
theorem dJ0_length_8abf5_4 : decode cJ0_length_8abf5 4 = .ok (.arraylength, 1) := by decide +kernel
theorem dJ0_length_8abf5_5 : decode cJ0_length_8abf5 5 = .ok (.aload_n 0, 1) := by decide +kernel
theorem dJ0_length_8abf5_6 : decode cJ0_length_8abf5 6 = .ok (.invokevirtual 335, 3) := by decide +kernel
theorem dJ0_length_8abf5_9 : decode cJ0_length_8abf5 9 = .ok (.ishr, 1) := by decide +kernel
theorem dJ0_length_8abf5_10 : decode cJ0_length_8abf5 10 = .ok (.ireturn, 1) := by decide +kernel
theorem dX3_signAt_0 : decode cX3_signAt 0 = .ok (.iload_n 1, 1) := by decide +kernel
theorem dX3_signAt_1 : decode cX3_signAt 1 = .ok (.aload_n 0, 1) := by decide +kernel
theorem dX3_signAt_2 : decode cX3_signAt 2 = .ok (.getfield 23, 3) := by decide +kernel
theorem dX3_signAt_5 : decode cX3_signAt 5 = .ok (.if_icmp .ge 14, 3) := by decide +kernel
theorem dX3_signAt_19 : decode cX3_signAt 19 = .ok (.iconst (-1), 1) := by decide +kernel
theorem dX3_signAt_20 : decode cX3_signAt 20 = .ok (.ireturn, 1) := by decide +kernel
theorem dX3_signAt_8 : decode cX3_signAt 8 = .ok (.aload_n 0, 1) := by decide +kernel
theorem dX3_signAt_9 : decode cX3_signAt 9 = .ok (.getfield 14, 3) := by decide +kernel
theorem dX3_signAt_12 : decode cX3_signAt 12 = .ok (.iload_n 1, 1) := by decide +kernel
theorem dX3_signAt_13 : decode cX3_signAt 13 = .ok (.invokevirtual 37, 3) := by decide +kernel
theorem dX3_signAt_16 : decode cX3_signAt 16 = .ok (.goto 4, 3) := by decide +kernel
theorem dJ0_isLatin1_aae02_0 : decode cJ0_isLatin1_aae02 0 = .ok (.getstatic 38, 3) := by decide +kernel
theorem dJ0_isLatin1_aae02_3 : decode cJ0_isLatin1_aae02 3 = .ok (.ifCond .eq 14, 3) := by decide +kernel
theorem dJ0_isLatin1_aae02_6 : decode cJ0_isLatin1_aae02 6 = .ok (.aload_n 0, 1) := by decide +kernel
theorem dJ0_isLatin1_aae02_7 : decode cJ0_isLatin1_aae02 7 = .ok (.getfield 15, 3) := by decide +kernel
theorem dJ0_isLatin1_aae02_10 : decode cJ0_isLatin1_aae02 10 = .ok (.ifCond .ne 7, 3) := by decide +kernel
theorem dJ0_isLatin1_aae02_13 : decode cJ0_isLatin1_aae02 13 = .ok (.iconst 1, 1) := by decide +kernel
theorem dJ0_isLatin1_aae02_14 : decode cJ0_isLatin1_aae02 14 = .ok (.goto 4, 3) := by decide +kernel
theorem dJ0_isLatin1_aae02_18 : decode cJ0_isLatin1_aae02 18 = .ok (.ireturn, 1) := by decide +kernel
theorem dJ3_checkIndex_8e157_0 : decode cJ3_checkIndex_8e157 0 = .ok (.iload_n 0, 1) := by decide +kernel
theorem dJ3_checkIndex_8e157_1 : decode cJ3_checkIndex_8e157 1 = .ok (.ifCond .lt 8, 3) := by decide +kernel
theorem dJ3_checkIndex_8e157_4 : decode cJ3_checkIndex_8e157 4 = .ok (.iload_n 0, 1) := by decide +kernel
theorem dJ3_checkIndex_8e157_5 : decode cJ3_checkIndex_8e157 5 = .ok (.iload_n 1, 1) := by decide +kernel
theorem dJ3_checkIndex_8e157_6 : decode cJ3_checkIndex_8e157 6 = .ok (.if_icmp .lt 10, 3) := by decide +kernel
theorem dJ3_checkIndex_8e157_16 : decode cJ3_checkIndex_8e157 16 = .ok (.iload_n 0, 1) := by decide +kernel
theorem dJ3_checkIndex_8e157_17 : decode cJ3_checkIndex_8e157 17 = .ok (.ireturn, 1) := by decide +kernel
theorem dJ0_checkIndex_df160_0 : decode cJ0_checkIndex_df160 0 = .ok (.iload_n 0, 1) := by decide +kernel
theorem dJ0_checkIndex_df160_1 : decode cJ0_checkIndex_df160 1 = .ok (.iload_n 1, 1) := by decide +kernel
theorem dJ0_checkIndex_df160_2 : decode cJ0_checkIndex_df160 2 = .ok (.getstatic 1053, 3) := by decide +kernel
theorem dJ0_checkIndex_df160_5 : decode cJ0_checkIndex_df160 5 = .ok (.invokestatic 1059, 3) := by decide +kernel
theorem dJ0_checkIndex_df160_8 : decode cJ0_checkIndex_df160 8 = .ok (.pop, 1) := by decide +kernel
theorem dJ0_checkIndex_df160_9 : decode cJ0_checkIndex_df160 9 = .ok (.return_, 1) := by decide +kernel
theorem dJ1_charAt_3b067_0 : decode cJ1_charAt_3b067 0 = .ok (.iload_n 1, 1) := by decide +kernel
theorem dJ1_charAt_3b067_1 : decode cJ1_charAt_3b067 1 = .ok (.aload_n 0, 1) := by decide +kernel
theorem dJ1_charAt_3b067_2 : decode cJ1_charAt_3b067 2 = .ok (.arraylength, 1) := by decide +kernel
theorem dJ1_charAt_3b067_3 : decode cJ1_charAt_3b067 3 = .ok (.invokestatic 9, 3) := by decide +kernel
theorem dJ1_charAt_3b067_6 : decode cJ1_charAt_3b067 6 = .ok (.aload_n 0, 1) := by decide +kernel
theorem dJ1_charAt_3b067_7 : decode cJ1_charAt_3b067 7 = .ok (.iload_n 1, 1) := by decide +kernel
theorem dJ1_charAt_3b067_8 : decode cJ1_charAt_3b067 8 = .ok (.baload, 1) := by decide +kernel
theorem dJ1_charAt_3b067_9 : decode cJ1_charAt_3b067 9 = .ok (.sipush 255, 3) := by decide +kernel
theorem dJ1_charAt_3b067_12 : decode cJ1_charAt_3b067 12 = .ok (.iand, 1) := by decide +kernel
theorem dJ1_charAt_3b067_13 : decode cJ1_charAt_3b067 13 = .ok (.i2c, 1) := by decide +kernel
theorem dJ1_charAt_3b067_14 : decode cJ1_charAt_3b067 14 = .ok (.ireturn, 1) := by decide +kernel
theorem dJ0_charAt_5068e_0 : decode cJ0_charAt_5068e 0 = .ok (.aload_n 0, 1) := by decide +kernel
theorem dJ0_charAt_5068e_1 : decode cJ0_charAt_5068e 1 = .ok (.invokevirtual 492, 3) := by decide +kernel
theorem dJ0_charAt_5068e_4 : decode cJ0_charAt_5068e 4 = .ok (.ifCond .eq 12, 3) := by decide +kernel
theorem dJ0_charAt_5068e_7 : decode cJ0_charAt_5068e 7 = .ok (.aload_n 0, 1) := by decide +kernel
theorem dJ0_charAt_5068e_8 : decode cJ0_charAt_5068e 8 = .ok (.getfield 9, 3) := by decide +kernel
theorem dJ0_charAt_5068e_11 : decode cJ0_charAt_5068e 11 = .ok (.iload_n 1, 1) := by decide +kernel
theorem dJ0_charAt_5068e_12 : decode cJ0_charAt_5068e 12 = .ok (.invokestatic 495, 3) := by decide +kernel
theorem dJ0_charAt_5068e_15 : decode cJ0_charAt_5068e 15 = .ok (.ireturn, 1) := by decide +kernel
theorem dX3_alikeWith_0 : decode cX3_alikeWith 0 = .ok (.iconst 0, 1) := by decide +kernel
theorem dX3_alikeWith_1 : decode cX3_alikeWith 1 = .ok (.istore_n 2, 1) := by decide +kernel
theorem dX3_alikeWith_2 : decode cX3_alikeWith 2 = .ok (.iload_n 2, 1) := by decide +kernel
theorem dX3_alikeWith_3 : decode cX3_alikeWith 3 = .ok (.aload_n 1, 1) := by decide +kernel
theorem dX3_alikeWith_4 : decode cX3_alikeWith 4 = .ok (.invokevirtual 68, 3) := by decide +kernel
theorem dX3_alikeWith_7 : decode cX3_alikeWith 7 = .ok (.if_icmp .ge 27, 3) := by decide +kernel
theorem dX3_alikeWith_10 : decode cX3_alikeWith 10 = .ok (.aload_n 0, 1) := by decide +kernel
theorem dX3_alikeWith_11 : decode cX3_alikeWith 11 = .ok (.aload_n 0, 1) := by decide +kernel
theorem dX3_alikeWith_12 : decode cX3_alikeWith 12 = .ok (.getfield 31, 3) := by decide +kernel
theorem dX3_alikeWith_15 : decode cX3_alikeWith 15 = .ok (.iload_n 2, 1) := by decide +kernel
theorem dX3_alikeWith_16 : decode cX3_alikeWith 16 = .ok (.iadd, 1) := by decide +kernel
theorem dX3_alikeWith_17 : decode cX3_alikeWith 17 = .ok (.invokevirtual 80, 3) := by decide +kernel
theorem dX3_alikeWith_20 : decode cX3_alikeWith 20 = .ok (.aload_n 1, 1) := by decide +kernel
theorem dX3_alikeWith_21 : decode cX3_alikeWith 21 = .ok (.iload_n 2, 1) := by decide +kernel
theorem dX3_alikeWith_22 : decode cX3_alikeWith 22 = .ok (.invokevirtual 83, 3) := by decide +kernel
theorem dX3_alikeWith_25 : decode cX3_alikeWith 25 = .ok (.if_icmp .ne 9, 3) := by decide +kernel
theorem dX3_alikeWith_28 : decode cX3_alikeWith 28 = .ok (.iinc 2 1, 3) := by decide +kernel
theorem dX3_alikeWith_31 : decode cX3_alikeWith 31 = .ok (.goto (-29), 3) := by decide +kernel
theorem dX3_alikeWith_34 : decode cX3_alikeWith 34 = .ok (.iload_n 2, 1) := by decide +kernel
theorem dX3_alikeWith_35 : decode cX3_alikeWith 35 = .ok (.ireturn, 1) := by decide +kernel
theorem dX3_readWord_0 : decode cX3_readWord 0 = .ok (.iconst 0, 1) := by decide +kernel
theorem dX3_readWord_1 : decode cX3_readWord 1 = .ok (.istore_n 1, 1) := by decide +kernel
theorem dX3_readWord_2 : decode cX3_readWord 2 = .ok (.iconst 0, 1) := by decide +kernel
theorem dX3_readWord_3 : decode cX3_readWord 3 = .ok (.istore_n 2, 1) := by decide +kernel
theorem dX3_readWord_4 : decode cX3_readWord 4 = .ok (.iload_n 2, 1) := by decide +kernel
theorem dX3_readWord_5 : decode cX3_readWord 5 = .ok (.bipush 8, 2) := by decide +kernel
theorem dX3_readWord_7 : decode cX3_readWord 7 = .ok (.if_icmp .ge 52, 3) := by decide +kernel
theorem dX3_readWord_10 : decode cX3_readWord 10 = .ok (.aload_n 0, 1) := by decide +kernel
theorem dX3_readWord_11 : decode cX3_readWord 11 = .ok (.iload_n 2, 1) := by decide +kernel
theorem dX3_readWord_12 : decode cX3_readWord 12 = .ok (.invokestatic 60, 3) := by decide +kernel
theorem dX3_readWord_15 : decode cX3_readWord 15 = .ok (.invokevirtual 64, 3) := by decide +kernel
theorem dX3_readWord_18 : decode cX3_readWord 18 = .ok (.istore_n 3, 1) := by decide +kernel
theorem dX3_readWord_19 : decode cX3_readWord 19 = .ok (.iload_n 3, 1) := by decide +kernel
theorem dX3_readWord_20 : decode cX3_readWord 20 = .ok (.iload_n 2, 1) := by decide +kernel
theorem dX3_readWord_21 : decode cX3_readWord 21 = .ok (.invokestatic 60, 3) := by decide +kernel
theorem dX3_readWord_24 : decode cX3_readWord 24 = .ok (.invokevirtual 68, 3) := by decide +kernel
theorem dX3_readWord_27 : decode cX3_readWord 27 = .ok (.if_icmp .ne 20, 3) := by decide +kernel
theorem dX3_readWord_47 : decode cX3_readWord 47 = .ok (.iload_n 1, 1) := by decide +kernel
theorem dX3_readWord_48 : decode cX3_readWord 48 = .ok (.iload_n 3, 1) := by decide +kernel
theorem dX3_readWord_49 : decode cX3_readWord 49 = .ok (.invokestatic 74, 3) := by decide +kernel
theorem dX3_readWord_52 : decode cX3_readWord 52 = .ok (.istore_n 1, 1) := by decide +kernel
theorem dX3_readWord_53 : decode cX3_readWord 53 = .ok (.iinc 2 1, 3) := by decide +kernel
theorem dX3_readWord_56 : decode cX3_readWord 56 = .ok (.goto (-52), 3) := by decide +kernel
theorem dX3_readWord_30 : decode cX3_readWord 30 = .ok (.aload_n 0, 1) := by decide +kernel
theorem dX3_readWord_31 : decode cX3_readWord 31 = .ok (.iload_n 2, 1) := by decide +kernel
theorem dX3_readWord_32 : decode cX3_readWord 32 = .ok (.putfield 34, 3) := by decide +kernel
theorem dX3_readWord_35 : decode cX3_readWord 35 = .ok (.aload_n 0, 1) := by decide +kernel
theorem dX3_readWord_36 : decode cX3_readWord 36 = .ok (.dup, 1) := by decide +kernel
theorem dX3_readWord_37 : decode cX3_readWord 37 = .ok (.getfield 31, 3) := by decide +kernel
theorem dX3_readWord_40 : decode cX3_readWord 40 = .ok (.iload_n 3, 1) := by decide +kernel
theorem dX3_readWord_41 : decode cX3_readWord 41 = .ok (.iadd, 1) := by decide +kernel
theorem dX3_readWord_42 : decode cX3_readWord 42 = .ok (.putfield 31, 3) := by decide +kernel
theorem dX3_readWord_45 : decode cX3_readWord 45 = .ok (.iconst 1, 1) := by decide +kernel
theorem dX3_readWord_46 : decode cX3_readWord 46 = .ok (.ireturn, 1) := by decide +kernel
theorem dX3_readWord_59 : decode cX3_readWord 59 = .ok (.aload_n 0, 1) := by decide +kernel
theorem dX3_readWord_60 : decode cX3_readWord 60 = .ok (.dup, 1) := by decide +kernel
theorem dX3_readWord_61 : decode cX3_readWord 61 = .ok (.getfield 31, 3) := by decide +kernel
theorem dX3_readWord_64 : decode cX3_readWord 64 = .ok (.iload_n 1, 1) := by decide +kernel
theorem dX3_readWord_65 : decode cX3_readWord 65 = .ok (.iadd, 1) := by decide +kernel
theorem dX3_readWord_66 : decode cX3_readWord 66 = .ok (.putfield 31, 3) := by decide +kernel
theorem dX3_readWord_69 : decode cX3_readWord 69 = .ok (.iconst 0, 1) := by decide +kernel
theorem dX3_readWord_70 : decode cX3_readWord 70 = .ok (.ireturn, 1) := by decide +kernel
theorem dX3_numbersOf_0 : decode cX3_numbersOf 0 = .ok (.iload_n 0, 1) := by decide +kernel
theorem dX3_numbersOf_1 : decode cX3_numbersOf 1 = .ok (.tableswitch 35 1 4 #[31, 33, 33, 33], 31) := by decide +kernel
theorem dX3_numbersOf_32 : decode cX3_numbersOf 32 = .ok (.iconst 3, 1) := by decide +kernel
theorem dX3_numbersOf_33 : decode cX3_numbersOf 33 = .ok (.ireturn, 1) := by decide +kernel
theorem dX3_numbersOf_34 : decode cX3_numbersOf 34 = .ok (.iconst 2, 1) := by decide +kernel
theorem dX3_numbersOf_35 : decode cX3_numbersOf 35 = .ok (.ireturn, 1) := by decide +kernel
theorem dX3_numbersOf_36 : decode cX3_numbersOf 36 = .ok (.iconst 1, 1) := by decide +kernel
theorem dX3_numbersOf_37 : decode cX3_numbersOf 37 = .ok (.ireturn, 1) := by decide +kernel
theorem dX3_isDigit_0 : decode cX3_isDigit 0 = .ok (.iload_n 0, 1) := by decide +kernel
theorem dX3_isDigit_1 : decode cX3_isDigit 1 = .ok (.bipush 48, 2) := by decide +kernel
theorem dX3_isDigit_3 : decode cX3_isDigit 3 = .ok (.if_icmp .lt 13, 3) := by decide +kernel
theorem dX3_isDigit_16 : decode cX3_isDigit 16 = .ok (.iconst 0, 1) := by decide +kernel
theorem dX3_isDigit_17 : decode cX3_isDigit 17 = .ok (.ireturn, 1) := by decide +kernel
theorem dX3_isDigit_6 : decode cX3_isDigit 6 = .ok (.iload_n 0, 1) := by decide +kernel
theorem dX3_isDigit_7 : decode cX3_isDigit 7 = .ok (.bipush 57, 2) := by decide +kernel
theorem dX3_isDigit_9 : decode cX3_isDigit 9 = .ok (.if_icmp .gt 7, 3) := by decide +kernel
theorem dX3_isDigit_12 : decode cX3_isDigit 12 = .ok (.iconst 1, 1) := by decide +kernel
theorem dX3_isDigit_13 : decode cX3_isDigit 13 = .ok (.goto 4, 3) := by decide +kernel
theorem dX3_readNumbers_0 : decode cX3_readNumbers 0 = .ok (.iconst 0, 1) := by decide +kernel
theorem dX3_readNumbers_1 : decode cX3_readNumbers 1 = .ok (.istore_n 1, 1) := by decide +kernel
theorem dX3_readNumbers_2 : decode cX3_readNumbers 2 = .ok (.iload_n 1, 1) := by decide +kernel
theorem dX3_readNumbers_3 : decode cX3_readNumbers 3 = .ok (.aload_n 0, 1) := by decide +kernel
theorem dX3_readNumbers_4 : decode cX3_readNumbers 4 = .ok (.getfield 34, 3) := by decide +kernel
theorem dX3_readNumbers_7 : decode cX3_readNumbers 7 = .ok (.invokestatic 87, 3) := by decide +kernel
theorem dX3_readNumbers_10 : decode cX3_readNumbers 10 = .ok (.if_icmp .ge 122, 3) := by decide +kernel
theorem dX3_readNumbers_13 : decode cX3_readNumbers 13 = .ok (.aload_n 0, 1) := by decide +kernel
theorem dX3_readNumbers_14 : decode cX3_readNumbers 14 = .ok (.aload_n 0, 1) := by decide +kernel
theorem dX3_readNumbers_15 : decode cX3_readNumbers 15 = .ok (.getfield 31, 3) := by decide +kernel
theorem dX3_readNumbers_18 : decode cX3_readNumbers 18 = .ok (.invokevirtual 80, 3) := by decide +kernel
theorem dX3_readNumbers_21 : decode cX3_readNumbers 21 = .ok (.bipush 32, 2) := by decide +kernel
theorem dX3_readNumbers_23 : decode cX3_readNumbers 23 = .ok (.if_icmp .eq 5, 3) := by decide +kernel
theorem dX3_readNumbers_28 : decode cX3_readNumbers 28 = .ok (.aload_n 0, 1) := by decide +kernel
theorem dX3_readNumbers_29 : decode cX3_readNumbers 29 = .ok (.dup, 1) := by decide +kernel
theorem dX3_readNumbers_30 : decode cX3_readNumbers 30 = .ok (.getfield 31, 3) := by decide +kernel
theorem dX3_readNumbers_33 : decode cX3_readNumbers 33 = .ok (.iconst 1, 1) := by decide +kernel
theorem dX3_readNumbers_34 : decode cX3_readNumbers 34 = .ok (.iadd, 1) := by decide +kernel
theorem dX3_readNumbers_35 : decode cX3_readNumbers 35 = .ok (.putfield 31, 3) := by decide +kernel
theorem dX3_readNumbers_38 : decode cX3_readNumbers 38 = .ok (.aload_n 0, 1) := by decide +kernel
theorem dX3_readNumbers_39 : decode cX3_readNumbers 39 = .ok (.aload_n 0, 1) := by decide +kernel
theorem dX3_readNumbers_40 : decode cX3_readNumbers 40 = .ok (.getfield 31, 3) := by decide +kernel
theorem dX3_readNumbers_43 : decode cX3_readNumbers 43 = .ok (.invokevirtual 80, 3) := by decide +kernel
theorem dX3_readNumbers_46 : decode cX3_readNumbers 46 = .ok (.invokestatic 90, 3) := by decide +kernel
theorem dX3_readNumbers_49 : decode cX3_readNumbers 49 = .ok (.ifCond .ne 5, 3) := by decide +kernel
theorem dX3_readNumbers_54 : decode cX3_readNumbers 54 = .ok (.aload_n 0, 1) := by decide +kernel
theorem dX3_readNumbers_55 : decode cX3_readNumbers 55 = .ok (.aload_n 0, 1) := by decide +kernel
theorem dX3_readNumbers_56 : decode cX3_readNumbers 56 = .ok (.getfield 31, 3) := by decide +kernel
theorem dX3_readNumbers_59 : decode cX3_readNumbers 59 = .ok (.invokevirtual 80, 3) := by decide +kernel
theorem dX3_readNumbers_62 : decode cX3_readNumbers 62 = .ok (.bipush 48, 2) := by decide +kernel
theorem dX3_readNumbers_64 : decode cX3_readNumbers 64 = .ok (.isub, 1) := by decide +kernel
theorem dX3_readNumbers_65 : decode cX3_readNumbers 65 = .ok (.istore_n 2, 1) := by decide +kernel
theorem dX3_readNumbers_66 : decode cX3_readNumbers 66 = .ok (.aload_n 0, 1) := by decide +kernel
theorem dX3_readNumbers_67 : decode cX3_readNumbers 67 = .ok (.dup, 1) := by decide +kernel
theorem dX3_readNumbers_68 : decode cX3_readNumbers 68 = .ok (.getfield 31, 3) := by decide +kernel
theorem dX3_readNumbers_71 : decode cX3_readNumbers 71 = .ok (.iconst 1, 1) := by decide +kernel
theorem dX3_readNumbers_72 : decode cX3_readNumbers 72 = .ok (.iadd, 1) := by decide +kernel
theorem dX3_readNumbers_73 : decode cX3_readNumbers 73 = .ok (.putfield 31, 3) := by decide +kernel
theorem dX3_readNumbers_76 : decode cX3_readNumbers 76 = .ok (.aload_n 0, 1) := by decide +kernel
theorem dX3_readNumbers_77 : decode cX3_readNumbers 77 = .ok (.aload_n 0, 1) := by decide +kernel
theorem dX3_readNumbers_78 : decode cX3_readNumbers 78 = .ok (.getfield 31, 3) := by decide +kernel
theorem dX3_readNumbers_81 : decode cX3_readNumbers 81 = .ok (.invokevirtual 80, 3) := by decide +kernel
theorem dX3_readNumbers_84 : decode cX3_readNumbers 84 = .ok (.invokestatic 90, 3) := by decide +kernel
theorem dX3_readNumbers_117 : decode cX3_readNumbers 117 = .ok (.aload_n 0, 1) := by decide +kernel
theorem dX3_readNumbers_118 : decode cX3_readNumbers 118 = .ok (.getfield 20, 3) := by decide +kernel
theorem dX3_readNumbers_121 : decode cX3_readNumbers 121 = .ok (.iload_n 1, 1) := by decide +kernel
theorem dX3_readNumbers_122 : decode cX3_readNumbers 122 = .ok (.iload_n 2, 1) := by decide +kernel
theorem dX3_readNumbers_123 : decode cX3_readNumbers 123 = .ok (.invokevirtual 27, 3) := by decide +kernel
theorem dX3_readNumbers_126 : decode cX3_readNumbers 126 = .ok (.iinc 1 1, 3) := by decide +kernel
theorem dX3_readNumbers_129 : decode cX3_readNumbers 129 = .ok (.goto (-127), 3) := by decide +kernel
theorem dX3_readNumbers_87 : decode cX3_readNumbers 87 = .ok (.ifCond .eq 30, 3) := by decide +kernel
theorem dX3_readNumbers_90 : decode cX3_readNumbers 90 = .ok (.bipush 10, 2) := by decide +kernel
theorem dX3_readNumbers_92 : decode cX3_readNumbers 92 = .ok (.iload_n 2, 1) := by decide +kernel
theorem dX3_readNumbers_93 : decode cX3_readNumbers 93 = .ok (.imul, 1) := by decide +kernel
theorem dX3_readNumbers_94 : decode cX3_readNumbers 94 = .ok (.aload_n 0, 1) := by decide +kernel
theorem dX3_readNumbers_95 : decode cX3_readNumbers 95 = .ok (.aload_n 0, 1) := by decide +kernel
theorem dX3_readNumbers_96 : decode cX3_readNumbers 96 = .ok (.getfield 31, 3) := by decide +kernel
theorem dX3_readNumbers_99 : decode cX3_readNumbers 99 = .ok (.invokevirtual 80, 3) := by decide +kernel
theorem dX3_readNumbers_102 : decode cX3_readNumbers 102 = .ok (.iadd, 1) := by decide +kernel
theorem dX3_readNumbers_103 : decode cX3_readNumbers 103 = .ok (.bipush 48, 2) := by decide +kernel
theorem dX3_readNumbers_105 : decode cX3_readNumbers 105 = .ok (.isub, 1) := by decide +kernel
theorem dX3_readNumbers_106 : decode cX3_readNumbers 106 = .ok (.istore_n 2, 1) := by decide +kernel
theorem dX3_readNumbers_107 : decode cX3_readNumbers 107 = .ok (.aload_n 0, 1) := by decide +kernel
theorem dX3_readNumbers_108 : decode cX3_readNumbers 108 = .ok (.dup, 1) := by decide +kernel
theorem dX3_readNumbers_109 : decode cX3_readNumbers 109 = .ok (.getfield 31, 3) := by decide +kernel
theorem dX3_readNumbers_112 : decode cX3_readNumbers 112 = .ok (.iconst 1, 1) := by decide +kernel
theorem dX3_readNumbers_113 : decode cX3_readNumbers 113 = .ok (.iadd, 1) := by decide +kernel
theorem dX3_readNumbers_114 : decode cX3_readNumbers 114 = .ok (.putfield 31, 3) := by decide +kernel
theorem dX3_readNumbers_26 : decode cX3_readNumbers 26 = .ok (.iconst 0, 1) := by decide +kernel
theorem dX3_readNumbers_27 : decode cX3_readNumbers 27 = .ok (.ireturn, 1) := by decide +kernel
theorem dX3_readNumbers_52 : decode cX3_readNumbers 52 = .ok (.iconst 0, 1) := by decide +kernel
theorem dX3_readNumbers_53 : decode cX3_readNumbers 53 = .ok (.ireturn, 1) := by decide +kernel
theorem dX3_readNumbers_132 : decode cX3_readNumbers 132 = .ok (.iconst 1, 1) := by decide +kernel
theorem dX3_readNumbers_133 : decode cX3_readNumbers 133 = .ok (.ireturn, 1) := by decide +kernel
set_option maxHeartbeats 4000000 in
set_option maxRecDepth 100000 in
theorem c_X3_textOf (l : Launch) (g : GG) (p0 : Int32) (hne : (m_X3_textOf p0) ≠ none) : Ct l g yX3_textOf cX3_textOf 1 (Option.some (Jvm.ClassFile.FieldType.object RJ0)) ({ frames := 0, cells := 0, slots := 0, locals := 0 } : Room) [.int p0] (([] : va_W)) (Qr g (m_X3_textOf p0) (fun u => adK g u) (fun u => ([] : va_W))) 0 0 := by
  obtain ⟨out, hf⟩ := ne_ex hne
  have hf0 := hf
  refine Ct.of (own := RX3) (by decide +kernel) rfl (Nat.le_of_ble_eq_true rfl) ?_
  intro p e s m below meth c hx hb hr hml hown hts hlocks hin hK A H locs hA hP hD hS hE ls hl
  have hl : lv_has ls 1 [(0, .int p0)] := hl
  unfold m_X3_textOf at hf
  refine lv_iload_n hx hb dX3_textOf_0 rfl (lv_at hl 0 rfl) ?_
  by_cases c0 : p0 = (0 : Int32)
  · have hf := it_t c0 hf
    refine lv_tableIn (off := 43) (tgt := 44) hx hb dX3_textOf_1 (by rw [c0]; decide) (by rw [c0]; decide) (by rw [c0]; rfl) (by decide) ?_
    refine lc_S hx hb hown (stR2 hK) dX3_textOf_44 ?_
    exact retR (u := (0 : Nat)) (ad := fun u => adK g u) (W1 := fun u => ([] : va_W)) hx hb hr (Or.inl ⟨_, rfl⟩) hlocks hS hP hD (hf0.trans hf.symm) rfl dX3_textOf_46
  have hf := it_f c0 hf
  by_cases c1 : p0 = (1 : Int32)
  · have hf := it_t c1 hf
    refine lv_tableIn (off := 46) (tgt := 47) hx hb dX3_textOf_1 (by rw [c1]; decide) (by rw [c1]; decide) (by rw [c1]; rfl) (by decide) ?_
    refine lc_S hx hb hown (stR3 hK) dX3_textOf_47 ?_
    exact retR (u := (1 : Nat)) (ad := fun u => adK g u) (W1 := fun u => ([] : va_W)) hx hb hr (Or.inl ⟨_, rfl⟩) hlocks hS hP hD (hf0.trans hf.symm) rfl dX3_textOf_49
  have hf := it_f c1 hf
  by_cases c2 : p0 = (2 : Int32)
  · have hf := it_t c2 hf
    refine lv_tableIn (off := 49) (tgt := 50) hx hb dX3_textOf_1 (by rw [c2]; decide) (by rw [c2]; decide) (by rw [c2]; rfl) (by decide) ?_
    refine lc_S hx hb hown (stR4 hK) dX3_textOf_50 ?_
    exact retR (u := (2 : Nat)) (ad := fun u => adK g u) (W1 := fun u => ([] : va_W)) hx hb hr (Or.inl ⟨_, rfl⟩) hlocks hS hP hD (hf0.trans hf.symm) rfl dX3_textOf_52
  have hf := it_f c2 hf
  by_cases c3 : p0 = (3 : Int32)
  · have hf := it_t c3 hf
    refine lv_tableIn (off := 52) (tgt := 53) hx hb dX3_textOf_1 (by rw [c3]; decide) (by rw [c3]; decide) (by rw [c3]; rfl) (by decide) ?_
    refine lc_S hx hb hown (stR5 hK) dX3_textOf_53 ?_
    exact retR (u := (3 : Nat)) (ad := fun u => adK g u) (W1 := fun u => ([] : va_W)) hx hb hr (Or.inl ⟨_, rfl⟩) hlocks hS hP hD (hf0.trans hf.symm) rfl dX3_textOf_55
  have hf := it_f c3 hf
  by_cases c4 : p0 = (4 : Int32)
  · have hf := it_t c4 hf
    refine lv_tableIn (off := 55) (tgt := 56) hx hb dX3_textOf_1 (by rw [c4]; decide) (by rw [c4]; decide) (by rw [c4]; rfl) (by decide) ?_
    refine lc_S hx hb hown (stR6 hK) dX3_textOf_56 ?_
    exact retR (u := (4 : Nat)) (ad := fun u => adK g u) (W1 := fun u => ([] : va_W)) hx hb hr (Or.inl ⟨_, rfl⟩) hlocks hS hP hD (hf0.trans hf.symm) rfl dX3_textOf_58
  have hf := it_f c4 hf
  by_cases c5 : p0 = (5 : Int32)
  · have hf := it_t c5 hf
    refine lv_tableIn (off := 58) (tgt := 59) hx hb dX3_textOf_1 (by rw [c5]; decide) (by rw [c5]; decide) (by rw [c5]; rfl) (by decide) ?_
    refine lc_S hx hb hown (stR7 hK) dX3_textOf_59 ?_
    exact retR (u := (5 : Nat)) (ad := fun u => adK g u) (W1 := fun u => ([] : va_W)) hx hb hr (Or.inl ⟨_, rfl⟩) hlocks hS hP hD (hf0.trans hf.symm) rfl dX3_textOf_61
  have hf := it_f c5 hf
  by_cases c6 : p0 = (6 : Int32)
  · have hf := it_t c6 hf
    refine lv_tableIn (off := 61) (tgt := 62) hx hb dX3_textOf_1 (by rw [c6]; decide) (by rw [c6]; decide) (by rw [c6]; rfl) (by decide) ?_
    refine lc_S hx hb hown (stR8 hK) dX3_textOf_62 ?_
    exact retR (u := (6 : Nat)) (ad := fun u => adK g u) (W1 := fun u => ([] : va_W)) hx hb hr (Or.inl ⟨_, rfl⟩) hlocks hS hP hD (hf0.trans hf.symm) rfl dX3_textOf_64
  have hf := it_f c6 hf
  refine lv_tableOut (tgt := 65) hx hb dX3_textOf_1 (by have q0 := lv_neT c0 (a := 0) rfl; have q1 := lv_neT c1 (a := 1) rfl; have q2 := lv_neT c2 (a := 2) rfl; have q3 := lv_neT c3 (a := 3) rfl; have q4 := lv_neT c4 (a := 4) rfl; have q5 := lv_neT c5 (a := 5) rfl; have q6 := lv_neT c6 (a := 6) rfl; omega) (by decide) ?_
  refine lc_S hx hb hown (stR9 hK) dX3_textOf_65 ?_
  exact retR (u := (7 : Nat)) (ad := fun u => adK g u) (W1 := fun u => ([] : va_W)) hx hb hr (Or.inl ⟨_, rfl⟩) hlocks hS hP hD (hf0.trans hf.symm) rfl dX3_textOf_67
