theorem svV_X2_get : SV RX2 yX2_get cX2_get 2 (some .int) 1 := ⟨kw268, kw269, kw3, kw270, rfl, by decide, by decide, by decide +kernel⟩
theorem svV_X2_set : SV RX2 yX2_set cX2_set 3 none 2 := ⟨kw272, kw273, kw3, kw274, rfl, by decide, by decide, by decide +kernel⟩
theorem svS_X1_commonOf : SS RX1 yX1_commonOf cX1_commonOf 11 (some .long) 2 := ⟨kw771, kw10, kw772, rfl, by decide, by decide, by decide +kernel⟩
theorem svV_X1_make : SV RX1 yX1_make cX1_make 7 none 2 := ⟨kw767, kw768, kw10, kw769, rfl, by decide, by decide, by decide +kernel⟩
theorem svV_X2_copyFrom : SV RX2 yX2_copyFrom cX2_copyFrom 3 none 1 := ⟨kw381, kw382, kw3, kw383, rfl, by decide, by decide, by decide +kernel⟩
theorem svV_X6_hasPaper : SV RX6 yX6_hasPaper cX6_hasPaper 2 (some .boolean) 1 := ⟨kw414, kw415, kw2, kw416, rfl, by decide, by decide, by decide +kernel⟩
theorem dX2_get_0 : decode cX2_get 0 = .ok (.iload_n 1, 1) := by decide +kernel
theorem dX2_get_1 : decode cX2_get 1 = .ok (.ifCond .lt 21, 3) := by decide +kernel
theorem dX2_get_22 : decode cX2_get 22 = .ok (.iconst 0, 1) := by decide +kernel
theorem dX2_get_23 : decode cX2_get 23 = .ok (.ireturn, 1) := by decide +kernel
theorem dX2_get_4 : decode cX2_get 4 = .ok (.iload_n 1, 1) := by decide +kernel
theorem dX2_get_5 : decode cX2_get 5 = .ok (.aload_n 0, 1) := by decide +kernel
theorem dX2_get_6 : decode cX2_get 6 = .ok (.getfield 13, 3) := by decide +kernel
theorem dX2_get_9 : decode cX2_get 9 = .ok (.arraylength, 1) := by decide +kernel
theorem dX2_get_10 : decode cX2_get 10 = .ok (.if_icmp .ge 12, 3) := by decide +kernel
theorem dX2_get_13 : decode cX2_get 13 = .ok (.aload_n 0, 1) := by decide +kernel
theorem dX2_get_14 : decode cX2_get 14 = .ok (.getfield 13, 3) := by decide +kernel
theorem dX2_get_17 : decode cX2_get 17 = .ok (.iload_n 1, 1) := by decide +kernel
theorem dX2_get_18 : decode cX2_get 18 = .ok (.iaload, 1) := by decide +kernel
theorem dX2_get_19 : decode cX2_get 19 = .ok (.goto 4, 3) := by decide +kernel
theorem dX2_set_0 : decode cX2_set 0 = .ok (.iload_n 1, 1) := by decide +kernel
theorem dX2_set_1 : decode cX2_set 1 = .ok (.ifCond .lt 19, 3) := by decide +kernel
theorem dX2_set_20 : decode cX2_set 20 = .ok (.return_, 1) := by decide +kernel
theorem dX2_set_4 : decode cX2_set 4 = .ok (.iload_n 1, 1) := by decide +kernel
theorem dX2_set_5 : decode cX2_set 5 = .ok (.aload_n 0, 1) := by decide +kernel
theorem dX2_set_6 : decode cX2_set 6 = .ok (.getfield 13, 3) := by decide +kernel
theorem dX2_set_9 : decode cX2_set 9 = .ok (.arraylength, 1) := by decide +kernel
theorem dX2_set_10 : decode cX2_set 10 = .ok (.if_icmp .ge 10, 3) := by decide +kernel
theorem dX2_set_13 : decode cX2_set 13 = .ok (.aload_n 0, 1) := by decide +kernel
theorem dX2_set_14 : decode cX2_set 14 = .ok (.getfield 13, 3) := by decide +kernel
theorem dX2_set_17 : decode cX2_set 17 = .ok (.iload_n 1, 1) := by decide +kernel
theorem dX2_set_18 : decode cX2_set 18 = .ok (.iload_n 2, 1) := by decide +kernel
theorem dX2_set_19 : decode cX2_set 19 = .ok (.iastore, 1) := by decide +kernel
theorem dX2_add_0 : decode cX2_add 0 = .ok (.aload_n 0, 1) := by decide +kernel
theorem dX2_add_1 : decode cX2_add 1 = .ok (.iload_n 1, 1) := by decide +kernel
theorem dX2_add_2 : decode cX2_add 2 = .ok (.aload_n 0, 1) := by decide +kernel
theorem dX2_add_3 : decode cX2_add 3 = .ok (.iload_n 1, 1) := by decide +kernel
theorem dX2_add_4 : decode cX2_add 4 = .ok (.invokevirtual 19, 3) := by decide +kernel
theorem dX2_add_7 : decode cX2_add 7 = .ok (.iload_n 2, 1) := by decide +kernel
theorem dX2_add_8 : decode cX2_add 8 = .ok (.iadd, 1) := by decide +kernel
theorem dX2_add_9 : decode cX2_add 9 = .ok (.invokevirtual 23, 3) := by decide +kernel
theorem dX2_add_12 : decode cX2_add 12 = .ok (.return_, 1) := by decide +kernel
theorem dX2_removeAt_0 : decode cX2_removeAt 0 = .ok (.iload_n 1, 1) := by decide +kernel
theorem dX2_removeAt_1 : decode cX2_removeAt 1 = .ok (.istore_n 2, 1) := by decide +kernel
theorem dX2_removeAt_2 : decode cX2_removeAt 2 = .ok (.iload_n 2, 1) := by decide +kernel
theorem dX2_removeAt_3 : decode cX2_removeAt 3 = .ok (.aload_n 0, 1) := by decide +kernel
theorem dX2_removeAt_4 : decode cX2_removeAt 4 = .ok (.getfield 13, 3) := by decide +kernel
theorem dX2_removeAt_7 : decode cX2_removeAt 7 = .ok (.arraylength, 1) := by decide +kernel
theorem dX2_removeAt_8 : decode cX2_removeAt 8 = .ok (.if_icmp .ge 21, 3) := by decide +kernel
theorem dX2_removeAt_11 : decode cX2_removeAt 11 = .ok (.aload_n 0, 1) := by decide +kernel
theorem dX2_removeAt_12 : decode cX2_removeAt 12 = .ok (.iload_n 2, 1) := by decide +kernel
theorem dX2_removeAt_13 : decode cX2_removeAt 13 = .ok (.aload_n 0, 1) := by decide +kernel
theorem dX2_removeAt_14 : decode cX2_removeAt 14 = .ok (.iload_n 2, 1) := by decide +kernel
theorem dX2_removeAt_15 : decode cX2_removeAt 15 = .ok (.iconst 1, 1) := by decide +kernel
theorem dX2_removeAt_16 : decode cX2_removeAt 16 = .ok (.iadd, 1) := by decide +kernel
theorem dX2_removeAt_17 : decode cX2_removeAt 17 = .ok (.invokevirtual 19, 3) := by decide +kernel
theorem dX2_removeAt_20 : decode cX2_removeAt 20 = .ok (.invokevirtual 23, 3) := by decide +kernel
theorem dX2_removeAt_23 : decode cX2_removeAt 23 = .ok (.iinc 2 1, 3) := by decide +kernel
theorem dX2_removeAt_26 : decode cX2_removeAt 26 = .ok (.goto (-24), 3) := by decide +kernel
theorem dX2_removeAt_29 : decode cX2_removeAt 29 = .ok (.return_, 1) := by decide +kernel
theorem dX2_copyFrom_0 : decode cX2_copyFrom 0 = .ok (.iconst 0, 1) := by decide +kernel
theorem dX2_copyFrom_1 : decode cX2_copyFrom 1 = .ok (.istore_n 2, 1) := by decide +kernel
theorem dX2_copyFrom_2 : decode cX2_copyFrom 2 = .ok (.iload_n 2, 1) := by decide +kernel
theorem dX2_copyFrom_3 : decode cX2_copyFrom 3 = .ok (.aload_n 0, 1) := by decide +kernel
theorem dX2_copyFrom_4 : decode cX2_copyFrom 4 = .ok (.getfield 13, 3) := by decide +kernel
theorem dX2_copyFrom_7 : decode cX2_copyFrom 7 = .ok (.arraylength, 1) := by decide +kernel
theorem dX2_copyFrom_8 : decode cX2_copyFrom 8 = .ok (.if_icmp .ge 20, 3) := by decide +kernel
theorem dX2_copyFrom_11 : decode cX2_copyFrom 11 = .ok (.aload_n 0, 1) := by decide +kernel
theorem dX2_copyFrom_12 : decode cX2_copyFrom 12 = .ok (.getfield 13, 3) := by decide +kernel
theorem dX2_copyFrom_15 : decode cX2_copyFrom 15 = .ok (.iload_n 2, 1) := by decide +kernel
theorem dX2_copyFrom_16 : decode cX2_copyFrom 16 = .ok (.aload_n 1, 1) := by decide +kernel
theorem dX2_copyFrom_17 : decode cX2_copyFrom 17 = .ok (.iload_n 2, 1) := by decide +kernel
theorem dX2_copyFrom_18 : decode cX2_copyFrom 18 = .ok (.invokevirtual 19, 3) := by decide +kernel
theorem dX2_copyFrom_21 : decode cX2_copyFrom 21 = .ok (.iastore, 1) := by decide +kernel
theorem dX2_copyFrom_22 : decode cX2_copyFrom 22 = .ok (.iinc 2 1, 3) := by decide +kernel
theorem dX2_copyFrom_25 : decode cX2_copyFrom 25 = .ok (.goto (-23), 3) := by decide +kernel
theorem dX2_copyFrom_28 : decode cX2_copyFrom 28 = .ok (.return_, 1) := by decide +kernel
theorem dX1_commonOf_0 : decode cX1_commonOf 0 = .ok (.lload_n 0, 1) := by decide +kernel
theorem dX1_commonOf_1 : decode cX1_commonOf 1 = .ok (.lconst 0, 1) := by decide +kernel
theorem dX1_commonOf_12 : decode cX1_commonOf 12 = .ok (.lstore 4, 2) := by decide +kernel
theorem dX1_commonOf_14 : decode cX1_commonOf 14 = .ok (.lload_n 2, 1) := by decide +kernel
theorem dX1_commonOf_15 : decode cX1_commonOf 15 = .ok (.lconst 0, 1) := by decide +kernel
theorem dX1_commonOf_26 : decode cX1_commonOf 26 = .ok (.lstore 6, 2) := by decide +kernel
theorem dX1_commonOf_28 : decode cX1_commonOf 28 = .ok (.iconst 0, 1) := by decide +kernel
theorem dX1_commonOf_29 : decode cX1_commonOf 29 = .ok (.istore 8, 2) := by decide +kernel
theorem dX1_commonOf_31 : decode cX1_commonOf 31 = .ok (.iload 8, 2) := by decide +kernel
theorem dX1_commonOf_33 : decode cX1_commonOf 33 = .ok (.sipush 200, 3) := by decide +kernel
theorem dX1_commonOf_36 : decode cX1_commonOf 36 = .ok (.if_icmp .ge 31, 3) := by decide +kernel
theorem dX1_commonOf_39 : decode cX1_commonOf 39 = .ok (.lload 6, 2) := by decide +kernel
theorem dX1_commonOf_41 : decode cX1_commonOf 41 = .ok (.lconst 0, 1) := by decide +kernel
theorem dX1_commonOf_42 : decode cX1_commonOf 42 = .ok (.lcmp, 1) := by decide +kernel
theorem dX1_commonOf_43 : decode cX1_commonOf 43 = .ok (.ifCond .eq 24, 3) := by decide +kernel
theorem dX1_commonOf_46 : decode cX1_commonOf 46 = .ok (.lload 4, 2) := by decide +kernel
theorem dX1_commonOf_48 : decode cX1_commonOf 48 = .ok (.lload 6, 2) := by decide +kernel
theorem dX1_commonOf_50 : decode cX1_commonOf 50 = .ok (.lrem, 1) := by decide +kernel
theorem dX1_commonOf_51 : decode cX1_commonOf 51 = .ok (.lstore 9, 2) := by decide +kernel
theorem dX1_commonOf_53 : decode cX1_commonOf 53 = .ok (.lload 6, 2) := by decide +kernel
theorem dX1_commonOf_55 : decode cX1_commonOf 55 = .ok (.lstore 4, 2) := by decide +kernel
theorem dX1_commonOf_57 : decode cX1_commonOf 57 = .ok (.lload 9, 2) := by decide +kernel
theorem dX1_commonOf_59 : decode cX1_commonOf 59 = .ok (.lstore 6, 2) := by decide +kernel
theorem dX1_commonOf_61 : decode cX1_commonOf 61 = .ok (.iinc 8 1, 3) := by decide +kernel
theorem dX1_commonOf_64 : decode cX1_commonOf 64 = .ok (.goto (-33), 3) := by decide +kernel
theorem dX1_commonOf_67 : decode cX1_commonOf 67 = .ok (.lload 4, 2) := by decide +kernel
theorem dX1_commonOf_69 : decode cX1_commonOf 69 = .ok (.lreturn, 1) := by decide +kernel
theorem dX1_commonOf_16 : decode cX1_commonOf 16 = .ok (.lcmp, 1) := by decide +kernel
theorem dX1_commonOf_17 : decode cX1_commonOf 17 = .ok (.ifCond .ge 8, 3) := by decide +kernel
theorem dX1_commonOf_25 : decode cX1_commonOf 25 = .ok (.lload_n 2, 1) := by decide +kernel
theorem dX1_commonOf_20 : decode cX1_commonOf 20 = .ok (.lload_n 2, 1) := by decide +kernel
theorem dX1_commonOf_21 : decode cX1_commonOf 21 = .ok (.lneg, 1) := by decide +kernel
theorem dX1_commonOf_22 : decode cX1_commonOf 22 = .ok (.goto 4, 3) := by decide +kernel
theorem dX1_commonOf_2 : decode cX1_commonOf 2 = .ok (.lcmp, 1) := by decide +kernel
theorem dX1_commonOf_3 : decode cX1_commonOf 3 = .ok (.ifCond .ge 8, 3) := by decide +kernel
theorem dX1_commonOf_11 : decode cX1_commonOf 11 = .ok (.lload_n 0, 1) := by decide +kernel
theorem dX1_commonOf_6 : decode cX1_commonOf 6 = .ok (.lload_n 0, 1) := by decide +kernel
theorem dX1_commonOf_7 : decode cX1_commonOf 7 = .ok (.lneg, 1) := by decide +kernel
theorem dX1_commonOf_8 : decode cX1_commonOf 8 = .ok (.goto 4, 3) := by decide +kernel
theorem dX1_make_0 : decode cX1_make 0 = .ok (.lload_n 1, 1) := by decide +kernel
theorem dX1_make_1 : decode cX1_make 1 = .ok (.lload_n 3, 1) := by decide +kernel
theorem dX1_make_2 : decode cX1_make 2 = .ok (.invokestatic 13, 3) := by decide +kernel
theorem dX1_make_5 : decode cX1_make 5 = .ok (.lstore 5, 2) := by decide +kernel
theorem dX1_make_7 : decode cX1_make 7 = .ok (.lload_n 3, 1) := by decide +kernel
theorem dX1_make_8 : decode cX1_make 8 = .ok (.lconst 0, 1) := by decide +kernel
theorem dX1_make_9 : decode cX1_make 9 = .ok (.lcmp, 1) := by decide +kernel
theorem dX1_make_10 : decode cX1_make 10 = .ok (.ifCond .le 10, 3) := by decide +kernel
theorem dX1_make_20 : decode cX1_make 20 = .ok (.aload_n 0, 1) := by decide +kernel
theorem dX1_make_21 : decode cX1_make 21 = .ok (.lconst 0, 1) := by decide +kernel
theorem dX1_make_22 : decode cX1_make 22 = .ok (.putfield 17, 3) := by decide +kernel
theorem dX1_make_25 : decode cX1_make 25 = .ok (.aload_n 0, 1) := by decide +kernel
theorem dX1_make_26 : decode cX1_make 26 = .ok (.lconst 1, 1) := by decide +kernel
theorem dX1_make_27 : decode cX1_make 27 = .ok (.putfield 7, 3) := by decide +kernel
theorem dX1_make_30 : decode cX1_make 30 = .ok (.return_, 1) := by decide +kernel
theorem dX1_make_13 : decode cX1_make 13 = .ok (.lload 5, 2) := by decide +kernel
theorem dX1_make_15 : decode cX1_make 15 = .ok (.lconst 0, 1) := by decide +kernel
theorem dX1_make_16 : decode cX1_make 16 = .ok (.lcmp, 1) := by decide +kernel
theorem dX1_make_17 : decode cX1_make 17 = .ok (.ifCond .gt 14, 3) := by decide +kernel
theorem dX1_make_31 : decode cX1_make 31 = .ok (.aload_n 0, 1) := by decide +kernel
theorem dX1_make_32 : decode cX1_make 32 = .ok (.lload_n 1, 1) := by decide +kernel
theorem dX1_make_33 : decode cX1_make 33 = .ok (.lload 5, 2) := by decide +kernel
theorem dX1_make_35 : decode cX1_make 35 = .ok (.ldiv, 1) := by decide +kernel
theorem dX1_make_36 : decode cX1_make 36 = .ok (.putfield 17, 3) := by decide +kernel
theorem dX1_make_39 : decode cX1_make 39 = .ok (.aload_n 0, 1) := by decide +kernel
theorem dX1_make_40 : decode cX1_make 40 = .ok (.lload_n 3, 1) := by decide +kernel
theorem dX1_make_41 : decode cX1_make 41 = .ok (.lload 5, 2) := by decide +kernel
theorem dX1_make_43 : decode cX1_make 43 = .ok (.ldiv, 1) := by decide +kernel
theorem dX1_make_44 : decode cX1_make 44 = .ok (.putfield 7, 3) := by decide +kernel
theorem dX1_make_47 : decode cX1_make 47 = .ok (.return_, 1) := by decide +kernel
theorem dX1_add_0 : decode cX1_add 0 = .ok (.aload_n 0, 1) := by decide +kernel
theorem dX1_add_1 : decode cX1_add 1 = .ok (.getfield 7, 3) := by decide +kernel
theorem dX1_add_4 : decode cX1_add 4 = .ok (.lload_n 3, 1) := by decide +kernel
theorem dX1_add_5 : decode cX1_add 5 = .ok (.invokestatic 13, 3) := by decide +kernel
theorem dX1_add_8 : decode cX1_add 8 = .ok (.lstore 5, 2) := by decide +kernel
theorem dX1_add_10 : decode cX1_add 10 = .ok (.lload 5, 2) := by decide +kernel
theorem dX1_add_12 : decode cX1_add 12 = .ok (.lconst 0, 1) := by decide +kernel
theorem dX1_add_13 : decode cX1_add 13 = .ok (.lcmp, 1) := by decide +kernel
theorem dX1_add_14 : decode cX1_add 14 = .ok (.ifCond .le 35, 3) := by decide +kernel
theorem dX1_add_49 : decode cX1_add 49 = .ok (.return_, 1) := by decide +kernel
theorem dX1_add_17 : decode cX1_add 17 = .ok (.aload_n 0, 1) := by decide +kernel
theorem dX1_add_18 : decode cX1_add 18 = .ok (.aload_n 0, 1) := by decide +kernel
theorem dX1_add_19 : decode cX1_add 19 = .ok (.getfield 17, 3) := by decide +kernel
theorem dX1_add_22 : decode cX1_add 22 = .ok (.lload_n 3, 1) := by decide +kernel
theorem dX1_add_23 : decode cX1_add 23 = .ok (.lload 5, 2) := by decide +kernel
theorem dX1_add_25 : decode cX1_add 25 = .ok (.ldiv, 1) := by decide +kernel
theorem dX1_add_26 : decode cX1_add 26 = .ok (.lmul, 1) := by decide +kernel
theorem dX1_add_27 : decode cX1_add 27 = .ok (.lload_n 1, 1) := by decide +kernel
theorem dX1_add_28 : decode cX1_add 28 = .ok (.aload_n 0, 1) := by decide +kernel
theorem dX1_add_29 : decode cX1_add 29 = .ok (.getfield 7, 3) := by decide +kernel
theorem dX1_add_32 : decode cX1_add 32 = .ok (.lload 5, 2) := by decide +kernel
theorem dX1_add_34 : decode cX1_add 34 = .ok (.ldiv, 1) := by decide +kernel
theorem dX1_add_35 : decode cX1_add 35 = .ok (.lmul, 1) := by decide +kernel
theorem dX1_add_36 : decode cX1_add 36 = .ok (.ladd, 1) := by decide +kernel
theorem dX1_add_37 : decode cX1_add 37 = .ok (.aload_n 0, 1) := by decide +kernel
theorem dX1_add_38 : decode cX1_add 38 = .ok (.getfield 7, 3) := by decide +kernel
theorem dX1_add_41 : decode cX1_add 41 = .ok (.lload 5, 2) := by decide +kernel
theorem dX1_add_43 : decode cX1_add 43 = .ok (.ldiv, 1) := by decide +kernel
theorem dX1_add_44 : decode cX1_add 44 = .ok (.lload_n 3, 1) := by decide +kernel
theorem dX1_add_45 : decode cX1_add 45 = .ok (.lmul, 1) := by decide +kernel
theorem dX1_add_46 : decode cX1_add 46 = .ok (.invokevirtual 20, 3) := by decide +kernel
theorem dX1_isBelow_0 : decode cX1_isBelow 0 = .ok (.aload_n 0, 1) := by decide +kernel
theorem dX1_isBelow_1 : decode cX1_isBelow 1 = .ok (.getfield 17, 3) := by decide +kernel
theorem dX1_isBelow_4 : decode cX1_isBelow 4 = .ok (.lload_n 3, 1) := by decide +kernel
theorem dX1_isBelow_5 : decode cX1_isBelow 5 = .ok (.lmul, 1) := by decide +kernel
theorem dX1_isBelow_6 : decode cX1_isBelow 6 = .ok (.lload_n 1, 1) := by decide +kernel
theorem dX1_isBelow_7 : decode cX1_isBelow 7 = .ok (.aload_n 0, 1) := by decide +kernel
theorem dX1_isBelow_8 : decode cX1_isBelow 8 = .ok (.getfield 7, 3) := by decide +kernel
theorem dX1_isBelow_11 : decode cX1_isBelow 11 = .ok (.lmul, 1) := by decide +kernel
theorem dX1_isBelow_12 : decode cX1_isBelow 12 = .ok (.lcmp, 1) := by decide +kernel
theorem dX1_isBelow_13 : decode cX1_isBelow 13 = .ok (.ifCond .ge 7, 3) := by decide +kernel
theorem dX1_isBelow_20 : decode cX1_isBelow 20 = .ok (.iconst 0, 1) := by decide +kernel
theorem dX1_isBelow_21 : decode cX1_isBelow 21 = .ok (.ireturn, 1) := by decide +kernel
theorem dX1_isBelow_16 : decode cX1_isBelow 16 = .ok (.iconst 1, 1) := by decide +kernel
theorem dX1_isBelow_17 : decode cX1_isBelow 17 = .ok (.goto 4, 3) := by decide +kernel
theorem dX1_partOf_0 : decode cX1_partOf 0 = .ok (.iload_n 1, 1) := by decide +kernel
theorem dX1_partOf_1 : decode cX1_partOf 1 = .ok (.ifCond .ne 10, 3) := by decide +kernel
theorem dX1_partOf_11 : decode cX1_partOf 11 = .ok (.aload_n 0, 1) := by decide +kernel
theorem dX1_partOf_12 : decode cX1_partOf 12 = .ok (.getfield 7, 3) := by decide +kernel
theorem dX1_partOf_15 : decode cX1_partOf 15 = .ok (.lreturn, 1) := by decide +kernel
theorem dX1_partOf_4 : decode cX1_partOf 4 = .ok (.aload_n 0, 1) := by decide +kernel
theorem dX1_partOf_5 : decode cX1_partOf 5 = .ok (.getfield 17, 3) := by decide +kernel
theorem dX1_partOf_8 : decode cX1_partOf 8 = .ok (.goto 7, 3) := by decide +kernel
theorem dX6_copyFrom_0 : decode cX6_copyFrom 0 = .ok (.aload_n 0, 1) := by decide +kernel
theorem dX6_copyFrom_1 : decode cX6_copyFrom 1 = .ok (.getfield 14, 3) := by decide +kernel
theorem dX6_copyFrom_4 : decode cX6_copyFrom 4 = .ok (.aload_n 1, 1) := by decide +kernel
theorem dX6_copyFrom_5 : decode cX6_copyFrom 5 = .ok (.getfield 14, 3) := by decide +kernel
theorem dX6_copyFrom_8 : decode cX6_copyFrom 8 = .ok (.invokevirtual 44, 3) := by decide +kernel
theorem dX6_copyFrom_11 : decode cX6_copyFrom 11 = .ok (.aload_n 0, 1) := by decide +kernel
theorem dX6_copyFrom_12 : decode cX6_copyFrom 12 = .ok (.getfield 20, 3) := by decide +kernel
theorem dX6_copyFrom_15 : decode cX6_copyFrom 15 = .ok (.aload_n 1, 1) := by decide +kernel
theorem dX6_copyFrom_16 : decode cX6_copyFrom 16 = .ok (.getfield 20, 3) := by decide +kernel
theorem dX6_copyFrom_19 : decode cX6_copyFrom 19 = .ok (.invokevirtual 44, 3) := by decide +kernel
theorem dX6_copyFrom_22 : decode cX6_copyFrom 22 = .ok (.aload_n 0, 1) := by decide +kernel
theorem dX6_copyFrom_23 : decode cX6_copyFrom 23 = .ok (.getfield 23, 3) := by decide +kernel
theorem dX6_copyFrom_26 : decode cX6_copyFrom 26 = .ok (.aload_n 1, 1) := by decide +kernel
theorem dX6_copyFrom_27 : decode cX6_copyFrom 27 = .ok (.getfield 23, 3) := by decide +kernel
theorem dX6_copyFrom_30 : decode cX6_copyFrom 30 = .ok (.invokevirtual 44, 3) := by decide +kernel
theorem dX6_copyFrom_33 : decode cX6_copyFrom 33 = .ok (.aload_n 0, 1) := by decide +kernel
theorem dX6_copyFrom_34 : decode cX6_copyFrom 34 = .ok (.getfield 26, 3) := by decide +kernel
theorem dX6_copyFrom_37 : decode cX6_copyFrom 37 = .ok (.aload_n 1, 1) := by decide +kernel
theorem dX6_copyFrom_38 : decode cX6_copyFrom 38 = .ok (.getfield 26, 3) := by decide +kernel
theorem dX6_copyFrom_41 : decode cX6_copyFrom 41 = .ok (.invokevirtual 44, 3) := by decide +kernel
theorem dX6_copyFrom_44 : decode cX6_copyFrom 44 = .ok (.aload_n 0, 1) := by decide +kernel
theorem dX6_copyFrom_45 : decode cX6_copyFrom 45 = .ok (.getfield 29, 3) := by decide +kernel
theorem dX6_copyFrom_48 : decode cX6_copyFrom 48 = .ok (.aload_n 1, 1) := by decide +kernel
theorem dX6_copyFrom_49 : decode cX6_copyFrom 49 = .ok (.getfield 29, 3) := by decide +kernel
theorem dX6_copyFrom_52 : decode cX6_copyFrom 52 = .ok (.invokevirtual 44, 3) := by decide +kernel
theorem dX6_copyFrom_55 : decode cX6_copyFrom 55 = .ok (.aload_n 0, 1) := by decide +kernel
theorem dX6_copyFrom_56 : decode cX6_copyFrom 56 = .ok (.aload_n 1, 1) := by decide +kernel
theorem dX6_copyFrom_57 : decode cX6_copyFrom 57 = .ok (.getfield 48, 3) := by decide +kernel
theorem dX6_copyFrom_60 : decode cX6_copyFrom 60 = .ok (.putfield 48, 3) := by decide +kernel
theorem dX6_copyFrom_63 : decode cX6_copyFrom 63 = .ok (.aload_n 0, 1) := by decide +kernel
theorem dX6_copyFrom_64 : decode cX6_copyFrom 64 = .ok (.getfield 32, 3) := by decide +kernel
theorem dX6_copyFrom_67 : decode cX6_copyFrom 67 = .ok (.aload_n 1, 1) := by decide +kernel
theorem dX6_copyFrom_68 : decode cX6_copyFrom 68 = .ok (.getfield 32, 3) := by decide +kernel
theorem dX6_copyFrom_71 : decode cX6_copyFrom 71 = .ok (.invokevirtual 44, 3) := by decide +kernel
theorem dX6_copyFrom_74 : decode cX6_copyFrom 74 = .ok (.aload_n 0, 1) := by decide +kernel
theorem dX6_copyFrom_75 : decode cX6_copyFrom 75 = .ok (.getfield 35, 3) := by decide +kernel
theorem dX6_copyFrom_78 : decode cX6_copyFrom 78 = .ok (.aload_n 1, 1) := by decide +kernel
theorem dX6_copyFrom_79 : decode cX6_copyFrom 79 = .ok (.getfield 35, 3) := by decide +kernel
theorem dX6_copyFrom_82 : decode cX6_copyFrom 82 = .ok (.invokevirtual 44, 3) := by decide +kernel
theorem dX6_copyFrom_85 : decode cX6_copyFrom 85 = .ok (.aload_n 0, 1) := by decide +kernel
theorem dX6_copyFrom_86 : decode cX6_copyFrom 86 = .ok (.aload_n 1, 1) := by decide +kernel
theorem dX6_copyFrom_87 : decode cX6_copyFrom 87 = .ok (.getfield 52, 3) := by decide +kernel
theorem dX6_copyFrom_90 : decode cX6_copyFrom 90 = .ok (.putfield 52, 3) := by decide +kernel
theorem dX6_copyFrom_93 : decode cX6_copyFrom 93 = .ok (.aload_n 0, 1) := by decide +kernel
theorem dX6_copyFrom_94 : decode cX6_copyFrom 94 = .ok (.getfield 38, 3) := by decide +kernel
theorem dX6_copyFrom_97 : decode cX6_copyFrom 97 = .ok (.aload_n 1, 1) := by decide +kernel
theorem dX6_copyFrom_98 : decode cX6_copyFrom 98 = .ok (.getfield 38, 3) := by decide +kernel
theorem dX6_copyFrom_101 : decode cX6_copyFrom 101 = .ok (.invokevirtual 44, 3) := by decide +kernel
theorem dX6_copyFrom_104 : decode cX6_copyFrom 104 = .ok (.aload_n 0, 1) := by decide +kernel
theorem dX6_copyFrom_105 : decode cX6_copyFrom 105 = .ok (.aload_n 1, 1) := by decide +kernel
theorem dX6_copyFrom_106 : decode cX6_copyFrom 106 = .ok (.getfield 55, 3) := by decide +kernel
theorem dX6_copyFrom_109 : decode cX6_copyFrom 109 = .ok (.putfield 55, 3) := by decide +kernel
theorem dX6_copyFrom_112 : decode cX6_copyFrom 112 = .ok (.aload_n 0, 1) := by decide +kernel
theorem dX6_copyFrom_113 : decode cX6_copyFrom 113 = .ok (.aload_n 1, 1) := by decide +kernel
theorem dX6_copyFrom_114 : decode cX6_copyFrom 114 = .ok (.getfield 58, 3) := by decide +kernel
theorem dX6_copyFrom_117 : decode cX6_copyFrom 117 = .ok (.putfield 58, 3) := by decide +kernel
theorem dX6_copyFrom_120 : decode cX6_copyFrom 120 = .ok (.return_, 1) := by decide +kernel
theorem dX6_paperCount_0 : decode cX6_paperCount 0 = .ok (.aload_n 0, 1) := by decide +kernel
theorem dX6_paperCount_1 : decode cX6_paperCount 1 = .ok (.getfield 48, 3) := by decide +kernel
theorem dX6_paperCount_4 : decode cX6_paperCount 4 = .ok (.ireturn, 1) := by decide +kernel
theorem dX6_ruleCount_0 : decode cX6_ruleCount 0 = .ok (.aload_n 0, 1) := by decide +kernel
theorem dX6_ruleCount_1 : decode cX6_ruleCount 1 = .ok (.getfield 52, 3) := by decide +kernel
theorem dX6_ruleCount_4 : decode cX6_ruleCount 4 = .ok (.ireturn, 1) := by decide +kernel
theorem dX6_limitCount_0 : decode cX6_limitCount 0 = .ok (.aload_n 0, 1) := by decide +kernel
theorem dX6_limitCount_1 : decode cX6_limitCount 1 = .ok (.getfield 55, 3) := by decide +kernel
theorem dX6_limitCount_4 : decode cX6_limitCount 4 = .ok (.ireturn, 1) := by decide +kernel
theorem dX6_tiesNow_0 : decode cX6_tiesNow 0 = .ok (.aload_n 0, 1) := by decide +kernel
theorem dX6_tiesNow_1 : decode cX6_tiesNow 1 = .ok (.getfield 58, 3) := by decide +kernel
theorem dX6_tiesNow_4 : decode cX6_tiesNow 4 = .ok (.ireturn, 1) := by decide +kernel
theorem dX6_hasPaper_0 : decode cX6_hasPaper 0 = .ok (.iload_n 1, 1) := by decide +kernel
theorem dX6_hasPaper_1 : decode cX6_hasPaper 1 = .ok (.ifCond .lt 15, 3) := by decide +kernel
theorem dX6_hasPaper_16 : decode cX6_hasPaper 16 = .ok (.iconst 0, 1) := by decide +kernel
theorem dX6_hasPaper_17 : decode cX6_hasPaper 17 = .ok (.ireturn, 1) := by decide +kernel
theorem dX6_hasPaper_4 : decode cX6_hasPaper 4 = .ok (.iload_n 1, 1) := by decide +kernel
theorem dX6_hasPaper_5 : decode cX6_hasPaper 5 = .ok (.aload_n 0, 1) := by decide +kernel
theorem dX6_hasPaper_6 : decode cX6_hasPaper 6 = .ok (.getfield 48, 3) := by decide +kernel
theorem dX6_hasPaper_9 : decode cX6_hasPaper 9 = .ok (.if_icmp .ge 7, 3) := by decide +kernel
theorem dX6_hasPaper_12 : decode cX6_hasPaper 12 = .ok (.iconst 1, 1) := by decide +kernel
theorem dX6_hasPaper_13 : decode cX6_hasPaper 13 = .ok (.goto 4, 3) := by decide +kernel
theorem dX6_areTwo_0 : decode cX6_areTwo 0 = .ok (.aload_n 0, 1) := by decide +kernel
theorem dX6_areTwo_1 : decode cX6_areTwo 1 = .ok (.iload_n 1, 1) := by decide +kernel
theorem dX6_areTwo_2 : decode cX6_areTwo 2 = .ok (.invokevirtual 61, 3) := by decide +kernel
theorem dX6_areTwo_5 : decode cX6_areTwo 5 = .ok (.ifCond .eq 20, 3) := by decide +kernel
theorem dX6_areTwo_25 : decode cX6_areTwo 25 = .ok (.iconst 0, 1) := by decide +kernel
theorem dX6_areTwo_26 : decode cX6_areTwo 26 = .ok (.ireturn, 1) := by decide +kernel
theorem dX6_areTwo_8 : decode cX6_areTwo 8 = .ok (.aload_n 0, 1) := by decide +kernel
theorem dX6_areTwo_9 : decode cX6_areTwo 9 = .ok (.iload_n 2, 1) := by decide +kernel
theorem dX6_areTwo_10 : decode cX6_areTwo 10 = .ok (.invokevirtual 61, 3) := by decide +kernel
theorem dX6_areTwo_13 : decode cX6_areTwo 13 = .ok (.ifCond .eq 12, 3) := by decide +kernel
theorem dX6_areTwo_16 : decode cX6_areTwo 16 = .ok (.iload_n 1, 1) := by decide +kernel
theorem dX6_areTwo_17 : decode cX6_areTwo 17 = .ok (.iload_n 2, 1) := by decide +kernel
theorem dX6_areTwo_18 : decode cX6_areTwo 18 = .ok (.if_icmp .eq 7, 3) := by decide +kernel
theorem dX6_areTwo_21 : decode cX6_areTwo 21 = .ok (.iconst 1, 1) := by decide +kernel
theorem dX6_areTwo_22 : decode cX6_areTwo 22 = .ok (.goto 4, 3) := by decide +kernel
set_option maxHeartbeats 4000000 in
set_option maxRecDepth 100000 in
theorem c_X2_get (l : Launch) (g : GG) (a0 : Nat → Nat) (n0 : Nat) (v0 : (Nat → Int32)) (p1 : Int32) (hne : (m_X2_get n0 v0 p1) ≠ none) : Ct l g yX2_get cX2_get 2 (some .int) ({ frames := 0, cells := 0, slots := 0, locals := 0 } : Room) [.ref (a0 0), .int p1] (wX2 a0 g n0 v0) (Qi g .int (m_X2_get n0 v0 p1) (fun u => u) (fun u => wX2 a0 g n0 v0)) 0 0 := by
  obtain ⟨out, hf⟩ := ne_ex hne
  have hf0 := hf
  refine Ct.of (own := RX2) (by decide +kernel) rfl (Nat.le_of_ble_eq_true rfl) ?_
  intro p e s m below meth c hx hb hr hml hown hts hlocks hin hK A H locs hA hP hD hS hE ls hl
  have hl : lv_has ls 2 [(0, .ref (a0 0)), (1, .int p1)] := hl
  unfold m_X2_get at hf
  refine lv_iload_n hx hb dX2_get_0 rfl (lv_at hl 1 rfl) ?_
  refine lv_if_lt (tgt := 22) hx hb dX2_get_1 (by decide) (fun cb => ?_) (fun cb => ?_)
  · have hf := it_t cb hf
    refine lv_iconst (v := 0) hx hb dX2_get_22 (by decide) ?_
    exact retI (v := (0 : Int32)) (u := (0 : Int32)) (val := fun u => u) (W1 := fun u => wX2 a0 g n0 v0) hx hb hr hlocks hS hP hD (hf0.trans hf.symm) rfl rfl dX2_get_23
  have hf := it_f cb hf
  refine lv_iload_n hx hb dX2_get_4 rfl (lv_at hl 1 rfl) ?_
  refine lv_aload_n hx hb dX2_get_5 rfl (lv_at hl 0 rfl) ?_
  refine va_get (D := g.1) (ci := 3) (v := .ref (a0 1)) (C := RX2) (T := TX2) (N := 1) hx hb hts layX2 hown hK.1 hP 0 rfl rfl 0 (by decide) (hts _ kw45) (fun _ h9 => h9) rfl dX2_get_6 ?_
  refine va_alen (v := (nI n0)) hx hb hK.1 hP 1 0 rfl rfl (by rfl) dX2_get_9 ?_
  refine lv_icmp_ge (tgt := 22) hx hb dX2_get_10 (by decide) (fun cb => ?_) (fun cb => ?_)
  · have hf := it_t cb hf
    refine lv_iconst (v := 0) hx hb dX2_get_22 (by decide) ?_
    exact retI (v := (0 : Int32)) (u := (0 : Int32)) (val := fun u => u) (W1 := fun u => wX2 a0 g n0 v0) hx hb hr hlocks hS hP hD (hf0.trans hf.symm) rfl rfl dX2_get_23
  have hf := it_f cb hf
  refine lv_aload_n hx hb dX2_get_13 rfl (lv_at hl 0 rfl) ?_
  refine va_get (D := g.1) (ci := 3) (v := .ref (a0 1)) (C := RX2) (T := TX2) (N := 1) hx hb hts layX2 hown hK.1 hP 0 rfl rfl 0 (by decide) (hts _ kw45) (fun _ h9 => h9) rfl dX2_get_14 ?_
  refine lv_iload_n hx hb dX2_get_17 rfl (lv_at hl 1 rfl) ?_
  have hi := it_n hf
  have hf := it_t hi hf
  refine va_iald hx hb hK.1 hP 1 0 rfl rfl (inb_in hi) dX2_get_18 ?_
  refine lv_goto (tgt := 23) hx hb dX2_get_19 (by decide) ?_
  exact retI (v := (v0 p1.toNatClampNeg)) (u := (v0 p1.toNatClampNeg)) (val := fun u => u) (W1 := fun u => wX2 a0 g n0 v0) hx hb hr hlocks hS hP hD (hf0.trans hf.symm) rfl rfl dX2_get_23
set_option maxHeartbeats 4000000 in
set_option maxRecDepth 100000 in
theorem c_X2_set (l : Launch) (g : GG) (a0 : Nat → Nat) (n0 : Nat) (v0 : (Nat → Int32)) (p1 : Int32) (p2 : Int32) (hne : (m_X2_set n0 v0 p1 p2) ≠ none) : Ct l g yX2_set cX2_set 3 none ({ frames := 0, cells := 0, slots := 0, locals := 0 } : Room) [.ref (a0 0), .int p1, .int p2] (wX2 a0 g n0 v0) (Qv g (m_X2_set n0 v0 p1 p2) (fun u => wX2 a0 g n0 u)) 0 0 := by
  obtain ⟨out, hf⟩ := ne_ex hne
  have hf0 := hf
  refine Ct.of (own := RX2) (by decide +kernel) rfl (Nat.le_of_ble_eq_true rfl) ?_
  intro p e s m below meth c hx hb hr hml hown hts hlocks hin hK A H locs hA hP hD hS hE ls hl
  have hl : lv_has ls 3 [(0, .ref (a0 0)), (1, .int p1), (2, .int p2)] := hl
  unfold m_X2_set at hf
  refine lv_iload_n hx hb dX2_set_0 rfl (lv_at hl 1 rfl) ?_
  refine lv_if_lt (tgt := 20) hx hb dX2_set_1 (by decide) (fun cb => ?_) (fun cb => ?_)
  · have hf := it_t cb hf
    exact retV (u := v0) (W1 := fun u => wX2 a0 g n0 u) hx hb hr hlocks hS hP hD (hf0.trans hf.symm) dX2_set_20
  have hf := it_f cb hf
  refine lv_iload_n hx hb dX2_set_4 rfl (lv_at hl 1 rfl) ?_
  refine lv_aload_n hx hb dX2_set_5 rfl (lv_at hl 0 rfl) ?_
  refine va_get (D := g.1) (ci := 3) (v := .ref (a0 1)) (C := RX2) (T := TX2) (N := 1) hx hb hts layX2 hown hK.1 hP 0 rfl rfl 0 (by decide) (hts _ kw45) (fun _ h9 => h9) rfl dX2_set_6 ?_
  refine va_alen (v := (nI n0)) hx hb hK.1 hP 1 0 rfl rfl (by rfl) dX2_set_9 ?_
  refine lv_icmp_ge (tgt := 20) hx hb dX2_set_10 (by decide) (fun cb => ?_) (fun cb => ?_)
  · have hf := it_t cb hf
    exact retV (u := v0) (W1 := fun u => wX2 a0 g n0 u) hx hb hr hlocks hS hP hD (hf0.trans hf.symm) dX2_set_20
  have hf := it_f cb hf
  refine lv_aload_n hx hb dX2_set_13 rfl (lv_at hl 0 rfl) ?_
  refine va_get (D := g.1) (ci := 3) (v := .ref (a0 1)) (C := RX2) (T := TX2) (N := 1) hx hb hts layX2 hown hK.1 hP 0 rfl rfl 0 (by decide) (hts _ kw45) (fun _ h9 => h9) rfl dX2_set_14 ?_
  refine lv_iload_n hx hb dX2_set_17 rfl (lv_at hl 1 rfl) ?_
  refine lv_iload_n hx hb dX2_set_18 rfl (lv_at hl 2 rfl) ?_
  have hi := it_n hf
  have hf := it_t hi hf
  refine va_iast hx hb hK.1 hP hD hS 1 0 rfl rfl (inb_in hi) dX2_set_19 (fun H locs hP hD hS => ?_)
  have hP : va_P g.1 vwCl (wX2 a0 g n0 (upd v0 p1.toNatClampNeg p2)) H := hP
  have hD : va_D A (wX2 a0 g n0 (upd v0 p1.toNatClampNeg p2)) := hD
  exact retV (u := (upd v0 p1.toNatClampNeg p2)) (W1 := fun u => wX2 a0 g n0 u) hx hb hr hlocks hS hP hD (hf0.trans hf.symm) dX2_set_20
set_option maxHeartbeats 4000000 in
set_option maxRecDepth 100000 in
theorem c_X2_add (l : Launch) (g : GG) (a0 : Nat → Nat) (n0 : Nat) (v0 : (Nat → Int32)) (p1 : Int32) (p2 : Int32) (hne : (m_X2_add n0 v0 p1 p2) ≠ none) : Ct l g yX2_add cX2_add 3 none ({ frames := 1, cells := 0, slots := 0, locals := 22 } : Room) [.ref (a0 0), .int p1, .int p2] (wX2 a0 g n0 v0) (Qv g (m_X2_add n0 v0 p1 p2) (fun u => wX2 a0 g n0 u)) 0 0 := by
  obtain ⟨out, hf⟩ := ne_ex hne
  have hf0 := hf
  refine Ct.of (own := RX2) (by decide +kernel) rfl (Nat.le_of_ble_eq_true rfl) ?_
  intro p e s m below meth c hx hb hr hml hown hts hlocks hin hK A H locs hA hP hD hS hE ls hl
  have hl : lv_has ls 3 [(0, .ref (a0 0)), (1, .int p1), (2, .int p2)] := hl
  unfold m_X2_add at hf
  refine lv_aload_n hx hb dX2_add_0 rfl (lv_at hl 0 rfl) ?_
  refine lv_iload_n hx hb dX2_add_1 rfl (lv_at hl 1 rfl) ?_
  refine lv_aload_n hx hb dX2_add_2 rfl (lv_at hl 0 rfl) ?_
  refine lv_iload_n hx hb dX2_add_3 rfl (lv_at hl 1 rfl) ?_
  refine cIp hP hD hS hA hE (fun hPc hDc hSc => rV (As := [.int p1]) (rest := [.int p1, .ref (a0 0)]) hx hb hml hown hts hK (c_X2_get l g a0 n0 v0 p1 (bnd_ne hf)) svV_X2_get kw384 rfl rfl hPc hDc hSc rfl rfl hl.1 (Nat.le_of_ble_eq_true rfl) dX2_add_4 ⟨Nat.le_of_ble_eq_true rfl, Nat.le_of_ble_eq_true rfl, rfl, rfl, Nat.le_of_ble_eq_true rfl, Nat.le_of_ble_eq_true rfl⟩) [(0, 2)] rfl rfl rfl (fun x1 H locs ex1 nx1 hP hS => ?_)
  have hf := bnd_of hf ex1
  refine lv_iload_n hx hb dX2_add_7 rfl (lv_at hl 2 rfl) ?_
  refine lv_iadd hx hb dX2_add_8 ?_
  refine cV hP hD hS hA hE (fun hPc hDc hSc => rV (As := [.int p1, .int (x1 + p2)]) (rest := []) hx hb hml hown hts hK (c_X2_set l g a0 n0 v0 p1 (x1 + p2) (bnd_ne hf)) svV_X2_set kw462 rfl rfl hPc hDc hSc rfl rfl hl.1 (Nat.le_of_ble_eq_true rfl) dX2_add_9 ⟨Nat.le_of_ble_eq_true rfl, Nat.le_of_ble_eq_true rfl, rfl, rfl, Nat.le_of_ble_eq_true rfl, Nat.le_of_ble_eq_true rfl⟩) [(0, 2)] rfl rfl rfl (fun _ => rfl) (fun x2 H locs ex2 hP hD hS => ?_)
  have hf := bnd_of hf ex2
  have hP : va_P g.1 vwCl (wX2 a0 g n0 x2) H := hP
  have hD : va_D A (wX2 a0 g n0 x2) := hD
  exact retV (u := x2) (W1 := fun u => wX2 a0 g n0 u) hx hb hr hlocks hS hP hD (hf0.trans hf.symm) dX2_add_12
set_option maxHeartbeats 4000000 in
set_option maxRecDepth 100000 in
theorem c_X2_removeAt (l : Launch) (g : GG) (a0 : Nat → Nat) (n0 : Nat) (v0 : (Nat → Int32)) (p1 : Int32) (hne : (m_X2_removeAt n0 v0 p1) ≠ none) : Ct l g yX2_removeAt cX2_removeAt 3 none ({ frames := 1, cells := 0, slots := 0, locals := 22 } : Room) [.ref (a0 0), .int p1] (wX2 a0 g n0 v0) (Qv g (m_X2_removeAt n0 v0 p1) (fun u => wX2 a0 g n0 u)) 0 0 := by
  obtain ⟨out, hf⟩ := ne_ex hne
  have hf0 := hf
  refine Ct.of (own := RX2) (by decide +kernel) rfl (Nat.le_of_ble_eq_true rfl) ?_
  intro p e s m below meth c hx hb hr hml hown hts hlocks hin hK A H locs hA hP hD hS hE ls hl
  have hl : lv_has ls 3 [(0, .ref (a0 0)), (1, .int p1)] := hl
  unfold m_X2_removeAt at hf
  refine lv_iload_n hx hb dX2_removeAt_0 rfl (lv_at hl 1 rfl) ?_
  refine lv_istore_n (lv' := [(2, .int p1), (0, .ref (a0 0)), (1, .int p1)]) hx hb dX2_removeAt_1 rfl hl (by decide) rfl (fun ls hl => ?_)
  obtain ⟨r7, er7, hf⟩ := bnd hf
  refine lp_W (P := fun z => ∀ (H : Heap) (locs : List Loc) (ls : Array Slot), va_P g.1 vwCl (wX2 a0 g n0 z.2) H → va_D A (wX2 a0 g n0 z.2) → va_S A s.heap H locs → lv_has ls 3 [(0, .ref (a0 0)), (2, .int z.1)] → W p l e { frames := 1, cells := 0, slots := 0, locals := 22 } s m [.ref (a0 0), .int p1].toArray below meth c H locs 0 0 (MQ below (Qv g (m_X2_removeAt n0 v0 p1) (fun u => wX2 a0 g n0 u) A) [.ref (a0 0), .int p1].toArray s 0 0 A) (F0 m 2 ls [])) (E := fun r7 => ∀ (H : Heap) (locs : List Loc) (ls : Array Slot), va_P g.1 vwCl (wX2 a0 g n0 r7) H → va_D A (wX2 a0 g n0 r7) → va_S A s.heap H locs → lv_has ls 3 [] → W p l e { frames := 1, cells := 0, slots := 0, locals := 22 } s m [.ref (a0 0), .int p1].toArray below meth c H locs 0 0 (MQ below (Qv g (m_X2_removeAt n0 v0 p1) (fun u => wX2 a0 g n0 u) A) [.ref (a0 0), .int p1].toArray s 0 0 A) (F0 m 29 ls [])) ?_ fu _ r7 er7 ?_ _ _ _ hP hD hS (lv_sub hl [1, 0] rfl)
  · rintro ⟨x3, x4⟩ y hf hB hXt H locs ls hP hD hS hl
    have hP : va_P g.1 vwCl (wX2 a0 g n0 x4) H := hP
    have hD : va_D A (wX2 a0 g n0 x4) := hD
    have hl : lv_has ls 3 [(0, .ref (a0 0)), (2, .int x3)] := hl
    have hf : m_X2_removeAt_l2 n0 x3 x4 = some y := hf
    unfold m_X2_removeAt_l2 at hf
    refine lv_iload_n hx hb dX2_removeAt_2 rfl (lv_at hl 1 rfl) ?_
    refine lv_aload_n hx hb dX2_removeAt_3 rfl (lv_at hl 0 rfl) ?_
    refine va_get (D := g.1) (ci := 3) (v := .ref (a0 1)) (C := RX2) (T := TX2) (N := 1) hx hb hts layX2 hown hK.1 hP 0 rfl rfl 0 (by decide) (hts _ kw45) (fun _ h9 => h9) rfl dX2_removeAt_4 ?_
    refine va_alen (v := (nI n0)) hx hb hK.1 hP 1 0 rfl rfl (by rfl) dX2_removeAt_7 ?_
    refine lv_icmp_ge (tgt := 29) hx hb dX2_removeAt_8 (by decide) (fun cb => ?_) (fun cb => ?_)
    · have hf := it_t cb hf
      exact hXt _ (Option.some.inj hf).symm _ _ _ hP hD hS (lv_sub hl [] rfl)
    have hf := it_f cb hf
    refine lv_aload_n hx hb dX2_removeAt_11 rfl (lv_at hl 0 rfl) ?_
    refine lv_iload_n hx hb dX2_removeAt_12 rfl (lv_at hl 1 rfl) ?_
    refine lv_aload_n hx hb dX2_removeAt_13 rfl (lv_at hl 0 rfl) ?_
    refine lv_iload_n hx hb dX2_removeAt_14 rfl (lv_at hl 1 rfl) ?_
    refine lv_iconst (v := 1) hx hb dX2_removeAt_15 (by decide) ?_
    refine lv_iadd hx hb dX2_removeAt_16 ?_
    refine cIp hP hD hS hA hE (fun hPc hDc hSc => rV (As := [.int (x3 + (1 : Int32))]) (rest := [.int x3, .ref (a0 0)]) hx hb hml hown hts hK (c_X2_get l g a0 n0 x4 (x3 + (1 : Int32)) (bnd_ne hf)) svV_X2_get kw384 rfl rfl hPc hDc hSc rfl rfl hl.1 (Nat.le_of_ble_eq_true rfl) dX2_removeAt_17 ⟨Nat.le_of_ble_eq_true rfl, Nat.le_of_ble_eq_true rfl, rfl, rfl, Nat.le_of_ble_eq_true rfl, Nat.le_of_ble_eq_true rfl⟩) [(0, 2)] rfl rfl rfl (fun x5 H locs ex5 nx5 hP hS => ?_)
    have hf := bnd_of hf ex5
    refine cV hP hD hS hA hE (fun hPc hDc hSc => rV (As := [.int x3, .int x5]) (rest := []) hx hb hml hown hts hK (c_X2_set l g a0 n0 x4 x3 x5 (bnd_ne hf)) svV_X2_set kw462 rfl rfl hPc hDc hSc rfl rfl hl.1 (Nat.le_of_ble_eq_true rfl) dX2_removeAt_20 ⟨Nat.le_of_ble_eq_true rfl, Nat.le_of_ble_eq_true rfl, rfl, rfl, Nat.le_of_ble_eq_true rfl, Nat.le_of_ble_eq_true rfl⟩) [(0, 2)] rfl rfl rfl (fun _ => rfl) (fun x6 H locs ex6 hP hD hS => ?_)
    have hf := bnd_of hf ex6
    have hP : va_P g.1 vwCl (wX2 a0 g n0 x6) H := hP
    have hD : va_D A (wX2 a0 g n0 x6) := hD
    refine lv_iinc (v := (x3 + 1)) (lv' := [(2, .int (x3 + 1)), (0, .ref (a0 0))]) hx hb dX2_removeAt_23 hl (k := 1) rfl (by rfl) (by decide) rfl (fun ls hl => ?_)
    refine lv_goto (tgt := 2) hx hb dX2_removeAt_26 (by decide) ?_
    exact hB _ (Option.some.inj hf).symm _ _ _ hP hD hS (lv_sub hl [1, 0] rfl)
  intro H locs ls hP hD hS hl
  have hP : va_P g.1 vwCl (wX2 a0 g n0 r7) H := hP
  have hD : va_D A (wX2 a0 g n0 r7) := hD
  have hl : lv_has ls 3 [] := hl
  exact retV (u := r7) (W1 := fun u => wX2 a0 g n0 u) hx hb hr hlocks hS hP hD (hf0.trans hf.symm) dX2_removeAt_29
set_option maxHeartbeats 4000000 in
set_option maxRecDepth 100000 in
theorem c_X2_copyFrom (l : Launch) (g : GG) (a0 : Nat → Nat) (n0 : Nat) (v0 : (Nat → Int32)) (a1 : Nat → Nat) (n1 : Nat) (v1 : (Nat → Int32)) (hne : (m_X2_copyFrom n0 v0 n1 v1) ≠ none) : Ct l g yX2_copyFrom cX2_copyFrom 3 none ({ frames := 1, cells := 0, slots := 0, locals := 21 } : Room) [.ref (a0 0), .ref (a1 0)] (wX2 a0 g n0 v0 ++ wX2 a1 g n1 v1) (Qv g (m_X2_copyFrom n0 v0 n1 v1) (fun u => wX2 a0 g n0 u ++ wX2 a1 g n1 v1)) 0 0 := by
  obtain ⟨out, hf⟩ := ne_ex hne
  have hf0 := hf
  refine Ct.of (own := RX2) (by decide +kernel) rfl (Nat.le_of_ble_eq_true rfl) ?_
  intro p e s m below meth c hx hb hr hml hown hts hlocks hin hK A H locs hA hP hD hS hE ls hl
  have hl : lv_has ls 3 [(0, .ref (a0 0)), (1, .ref (a1 0))] := hl
  unfold m_X2_copyFrom at hf
  refine lv_iconst (v := 0) hx hb dX2_copyFrom_0 (by decide) ?_
  refine lv_istore_n (lv' := [(2, .int (0 : Int32)), (0, .ref (a0 0)), (1, .ref (a1 0))]) hx hb dX2_copyFrom_1 rfl hl (by decide) rfl (fun ls hl => ?_)
  obtain ⟨r5, er5, hf⟩ := bnd hf
  refine lp_W (P := fun z => ∀ (H : Heap) (locs : List Loc) (ls : Array Slot), va_P g.1 vwCl (wX2 a0 g n0 z.2 ++ wX2 a1 g n1 v1) H → va_D A (wX2 a0 g n0 z.2 ++ wX2 a1 g n1 v1) → va_S A s.heap H locs → lv_has ls 3 [(0, .ref (a0 0)), (1, .ref (a1 0)), (2, .int z.1)] → W p l e { frames := 1, cells := 0, slots := 0, locals := 21 } s m [.ref (a0 0), .ref (a1 0)].toArray below meth c H locs 0 0 (MQ below (Qv g (m_X2_copyFrom n0 v0 n1 v1) (fun u => wX2 a0 g n0 u ++ wX2 a1 g n1 v1) A) [.ref (a0 0), .ref (a1 0)].toArray s 0 0 A) (F0 m 2 ls [])) (E := fun r5 => ∀ (H : Heap) (locs : List Loc) (ls : Array Slot), va_P g.1 vwCl (wX2 a0 g n0 r5 ++ wX2 a1 g n1 v1) H → va_D A (wX2 a0 g n0 r5 ++ wX2 a1 g n1 v1) → va_S A s.heap H locs → lv_has ls 3 [] → W p l e { frames := 1, cells := 0, slots := 0, locals := 21 } s m [.ref (a0 0), .ref (a1 0)].toArray below meth c H locs 0 0 (MQ below (Qv g (m_X2_copyFrom n0 v0 n1 v1) (fun u => wX2 a0 g n0 u ++ wX2 a1 g n1 v1) A) [.ref (a0 0), .ref (a1 0)].toArray s 0 0 A) (F0 m 28 ls [])) ?_ fu _ r5 er5 ?_ _ _ _ hP hD hS (lv_sub hl [1, 2, 0] rfl)
  · rintro ⟨x2, x3⟩ y hf hB hXt H locs ls hP hD hS hl
    have hP : va_P g.1 vwCl (wX2 a0 g n0 x3 ++ wX2 a1 g n1 v1) H := hP
    have hD : va_D A (wX2 a0 g n0 x3 ++ wX2 a1 g n1 v1) := hD
    have hl : lv_has ls 3 [(0, .ref (a0 0)), (1, .ref (a1 0)), (2, .int x2)] := hl
    have hf : m_X2_copyFrom_l2 n0 n1 v1 x2 x3 = some y := hf
    unfold m_X2_copyFrom_l2 at hf
    refine lv_iload_n hx hb dX2_copyFrom_2 rfl (lv_at hl 2 rfl) ?_
    refine lv_aload_n hx hb dX2_copyFrom_3 rfl (lv_at hl 0 rfl) ?_
    refine va_get (D := g.1) (ci := 3) (v := .ref (a0 1)) (C := RX2) (T := TX2) (N := 1) hx hb hts layX2 hown hK.1 hP 0 rfl rfl 0 (by decide) (hts _ kw45) (fun _ h9 => h9) rfl dX2_copyFrom_4 ?_
    refine va_alen (v := (nI n0)) hx hb hK.1 hP 1 0 rfl rfl (by rfl) dX2_copyFrom_7 ?_
    refine lv_icmp_ge (tgt := 28) hx hb dX2_copyFrom_8 (by decide) (fun cb => ?_) (fun cb => ?_)
    · have hf := it_t cb hf
      exact hXt _ (Option.some.inj hf).symm _ _ _ hP hD hS (lv_sub hl [] rfl)
    have hf := it_f cb hf
    refine lv_aload_n hx hb dX2_copyFrom_11 rfl (lv_at hl 0 rfl) ?_
    refine va_get (D := g.1) (ci := 3) (v := .ref (a0 1)) (C := RX2) (T := TX2) (N := 1) hx hb hts layX2 hown hK.1 hP 0 rfl rfl 0 (by decide) (hts _ kw45) (fun _ h9 => h9) rfl dX2_copyFrom_12 ?_
    refine lv_iload_n hx hb dX2_copyFrom_15 rfl (lv_at hl 2 rfl) ?_
    refine lv_aload_n hx hb dX2_copyFrom_16 rfl (lv_at hl 1 rfl) ?_
    refine lv_iload_n hx hb dX2_copyFrom_17 rfl (lv_at hl 2 rfl) ?_
    refine cIp hP hD hS hA hE (fun hPc hDc hSc => rV (As := [.int x2]) (rest := [.int x2, .ref (a0 1)]) hx hb hml hown hts hK (c_X2_get l g a1 n1 v1 x2 (bnd_ne hf)) svV_X2_get kw384 rfl rfl hPc hDc hSc rfl rfl hl.1 (Nat.le_of_ble_eq_true rfl) dX2_copyFrom_18 ⟨Nat.le_of_ble_eq_true rfl, Nat.le_of_ble_eq_true rfl, rfl, rfl, Nat.le_of_ble_eq_true rfl, Nat.le_of_ble_eq_true rfl⟩) [(2, 2)] rfl rfl rfl (fun x4 H locs ex4 nx4 hP hS => ?_)
    have hf := bnd_of hf ex4
    have hi := it_n hf
    have hf := it_t hi hf
    refine va_iast hx hb hK.1 hP hD hS 1 0 rfl rfl (inb_in hi) dX2_copyFrom_21 (fun H locs hP hD hS => ?_)
    have hP : va_P g.1 vwCl (wX2 a0 g n0 (upd x3 x2.toNatClampNeg x4) ++ wX2 a1 g n1 v1) H := hP
    have hD : va_D A (wX2 a0 g n0 (upd x3 x2.toNatClampNeg x4) ++ wX2 a1 g n1 v1) := hD
    refine lv_iinc (v := (x2 + 1)) (lv' := [(2, .int (x2 + 1)), (0, .ref (a0 0)), (1, .ref (a1 0))]) hx hb dX2_copyFrom_22 hl (k := 2) rfl (by rfl) (by decide) rfl (fun ls hl => ?_)
    refine lv_goto (tgt := 2) hx hb dX2_copyFrom_25 (by decide) ?_
    exact hB _ (Option.some.inj hf).symm _ _ _ hP hD hS (lv_sub hl [1, 2, 0] rfl)
  intro H locs ls hP hD hS hl
  have hP : va_P g.1 vwCl (wX2 a0 g n0 r5 ++ wX2 a1 g n1 v1) H := hP
  have hD : va_D A (wX2 a0 g n0 r5 ++ wX2 a1 g n1 v1) := hD
  have hl : lv_has ls 3 [] := hl
  exact retV (u := r5) (W1 := fun u => wX2 a0 g n0 u ++ wX2 a1 g n1 v1) hx hb hr hlocks hS hP hD (hf0.trans hf.symm) dX2_copyFrom_28
set_option maxHeartbeats 4000000 in
set_option maxRecDepth 100000 in
theorem c_X1_commonOf (l : Launch) (g : GG) (p0 : Int64) (p2 : Int64) (hne : (m_X1_commonOf p0 p2) ≠ none) : Ct l g yX1_commonOf cX1_commonOf 11 (some .long) ({ frames := 0, cells := 0, slots := 0, locals := 0 } : Room) [.long p0, .long p2] (([] : va_W)) (Ql g (m_X1_commonOf p0 p2) (fun u => u) (fun u => ([] : va_W))) 0 0 := by
  obtain ⟨out, hf⟩ := ne_ex hne
  have hf0 := hf
  refine Ct.of (own := RX1) (by decide +kernel) rfl (Nat.le_of_ble_eq_true rfl) ?_
  intro p e s m below meth c hx hb hr hml hown hts hlocks hin hK A H locs hA hP hD hS hE ls hl
  have hl : lv_has ls 11 [(0, .long p0), (2, .long p2)] := hl
  unfold m_X1_commonOf at hf
  refine lv_lload_n hx hb dX1_commonOf_0 rfl (lv_at hl 0 rfl) ?_
  refine lv_lconst (v := 0) hx hb dX1_commonOf_1 (by decide) ?_
  obtain ⟨r1, er1, hf⟩ := bnd hf
  have K : ∀ (H : Heap) (locs : List Loc) (ls : Array Slot), va_P g.1 vwCl (([] : va_W)) H → va_D A (([] : va_W)) → va_S A s.heap H locs → lv_has ls 11 [(2, .long p2)] → W p l e { frames := 0, cells := 0, slots := 0, locals := 0 } s m [.long p0, .long p2].toArray below meth c H locs 0 0 (MQ below (Ql g (m_X1_commonOf p0 p2) (fun u => u) (fun u => ([] : va_W)) A) [.long p0, .long p2].toArray s 0 0 A) (F0 m 12 ls [.long r1]) := by
    intro H locs ls hP hD hS hl
    refine lv_lstore (lv' := [(4, .long r1), (2, .long p2)]) hx hb dX1_commonOf_12 hl (by decide) rfl (fun ls hl => ?_)
    refine lv_lload_n hx hb dX1_commonOf_14 rfl (lv_at hl 1 rfl) ?_
    refine lv_lconst (v := 0) hx hb dX1_commonOf_15 (by decide) ?_
    obtain ⟨r2, er2, hf⟩ := bnd hf
    have K : ∀ (H : Heap) (locs : List Loc) (ls : Array Slot), va_P g.1 vwCl (([] : va_W)) H → va_D A (([] : va_W)) → va_S A s.heap H locs → lv_has ls 11 [(4, .long r1)] → W p l e { frames := 0, cells := 0, slots := 0, locals := 0 } s m [.long p0, .long p2].toArray below meth c H locs 0 0 (MQ below (Ql g (m_X1_commonOf p0 p2) (fun u => u) (fun u => ([] : va_W)) A) [.long p0, .long p2].toArray s 0 0 A) (F0 m 26 ls [.long r2]) := by
      intro H locs ls hP hD hS hl
      refine lv_lstore (lv' := [(6, .long r2), (4, .long r1)]) hx hb dX1_commonOf_26 hl (by decide) rfl (fun ls hl => ?_)
      refine lv_iconst (v := 0) hx hb dX1_commonOf_28 (by decide) ?_
      refine lv_istore (lv' := [(8, .int (0 : Int32)), (6, .long r2), (4, .long r1)]) hx hb dX1_commonOf_29 hl (by decide) rfl (fun ls hl => ?_)
      obtain ⟨r6, er6, hf⟩ := bnd hf
      refine lp_W (P := fun z => ∀ (H : Heap) (locs : List Loc) (ls : Array Slot), va_P g.1 vwCl (([] : va_W)) H → va_D A (([] : va_W)) → va_S A s.heap H locs → lv_has ls 11 [(4, .long z.1), (6, .long z.2.1), (8, .int z.2.2)] → W p l e { frames := 0, cells := 0, slots := 0, locals := 0 } s m [.long p0, .long p2].toArray below meth c H locs 0 0 (MQ below (Ql g (m_X1_commonOf p0 p2) (fun u => u) (fun u => ([] : va_W)) A) [.long p0, .long p2].toArray s 0 0 A) (F0 m 31 ls [])) (E := fun r6 => ∀ (H : Heap) (locs : List Loc) (ls : Array Slot), va_P g.1 vwCl (([] : va_W)) H → va_D A (([] : va_W)) → va_S A s.heap H locs → lv_has ls 11 [(4, .long r6)] → W p l e { frames := 0, cells := 0, slots := 0, locals := 0 } s m [.long p0, .long p2].toArray below meth c H locs 0 0 (MQ below (Ql g (m_X1_commonOf p0 p2) (fun u => u) (fun u => ([] : va_W)) A) [.long p0, .long p2].toArray s 0 0 A) (F0 m 67 ls [])) ?_ fu _ r6 er6 ?_ _ _ _ hP hD hS (lv_sub hl [2, 1, 0] rfl)
      · rintro ⟨x3, x4, x5⟩ y hf hB hXt H locs ls hP hD hS hl
        have hP : va_P g.1 vwCl (([] : va_W)) H := hP
        have hD : va_D A (([] : va_W)) := hD
        have hl : lv_has ls 11 [(4, .long x3), (6, .long x4), (8, .int x5)] := hl
        have hf : m_X1_commonOf_l31 x3 x4 x5 = some y := hf
        unfold m_X1_commonOf_l31 at hf
        refine lv_iload hx hb dX1_commonOf_31 (lv_at hl 2 rfl) ?_
        refine lv_sipush (v := 200) hx hb dX1_commonOf_33 (by decide) ?_
        refine lv_icmp_ge (tgt := 67) hx hb dX1_commonOf_36 (by decide) (fun cb => ?_) (fun cb => ?_)
        · have hf := it_t cb hf
          exact hXt _ (Option.some.inj hf).symm _ _ _ hP hD hS (lv_sub hl [0] rfl)
        have hf := it_f cb hf
        refine lv_lload hx hb dX1_commonOf_39 (lv_at hl 1 rfl) ?_
        refine lv_lconst (v := 0) hx hb dX1_commonOf_41 (by decide) ?_
        refine lc_eq (tgt := 67) hx hb dX1_commonOf_42 dX1_commonOf_43 (by decide) (fun cb => ?_) (fun cb => ?_)
        · have hf := it_t cb hf
          exact hXt _ (Option.some.inj hf).symm _ _ _ hP hD hS (lv_sub hl [0] rfl)
        have hf := it_f cb hf
        refine lv_lload hx hb dX1_commonOf_46 (lv_at hl 0 rfl) ?_
        refine lv_lload hx hb dX1_commonOf_48 (lv_at hl 1 rfl) ?_
        have hi := it_n hf
        have hf := it_t hi hf
        refine lv_lrem hx hb dX1_commonOf_50 hi ?_
        refine lv_lstore (lv' := [(9, .long (x3 - x3 / x4 * x4)), (4, .long x3), (6, .long x4), (8, .int x5)]) hx hb dX1_commonOf_51 hl (by decide) rfl (fun ls hl => ?_)
        refine lv_lload hx hb dX1_commonOf_53 (lv_at hl 2 rfl) ?_
        refine lv_lstore (lv' := [(4, .long x4), (9, .long (x3 - x3 / x4 * x4)), (6, .long x4), (8, .int x5)]) hx hb dX1_commonOf_55 hl (by decide) rfl (fun ls hl => ?_)
        refine lv_lload hx hb dX1_commonOf_57 (lv_at hl 1 rfl) ?_
        refine lv_lstore (lv' := [(6, .long (x3 - x3 / x4 * x4)), (4, .long x4), (9, .long (x3 - x3 / x4 * x4)), (8, .int x5)]) hx hb dX1_commonOf_59 hl (by decide) rfl (fun ls hl => ?_)
        refine lv_iinc (v := (x5 + 1)) (lv' := [(8, .int (x5 + 1)), (6, .long (x3 - x3 / x4 * x4)), (4, .long x4), (9, .long (x3 - x3 / x4 * x4))]) hx hb dX1_commonOf_61 hl (k := 3) rfl (by rfl) (by decide) rfl (fun ls hl => ?_)
        refine lv_goto (tgt := 31) hx hb dX1_commonOf_64 (by decide) ?_
        exact hB _ (Option.some.inj hf).symm _ _ _ hP hD hS (lv_sub hl [2, 1, 0] rfl)
      intro H locs ls hP hD hS hl
      have hP : va_P g.1 vwCl (([] : va_W)) H := hP
      have hD : va_D A (([] : va_W)) := hD
      have hl : lv_has ls 11 [(4, .long r6)] := hl
      refine lv_lload hx hb dX1_commonOf_67 (lv_at hl 0 rfl) ?_
      exact retL (u := r6) (val := fun u => u) (W1 := fun u => ([] : va_W)) hx hb hr hlocks hS hP hD (hf0.trans hf.symm) rfl dX1_commonOf_69
    have hf := er2
    refine lc_ge (tgt := 25) hx hb dX1_commonOf_16 dX1_commonOf_17 (by decide) (fun cb => ?_) (fun cb => ?_)
    · have hf := it_t cb hf
      refine lv_lload_n hx hb dX1_commonOf_25 rfl (lv_at hl 1 rfl) ?_
      have hq := Option.some.inj hf
      subst hq
      exact K _ _ _ hP hD hS (lv_sub hl [0] rfl)
    have hf := it_f cb hf
    refine lv_lload_n hx hb dX1_commonOf_20 rfl (lv_at hl 1 rfl) ?_
    refine lv_lneg hx hb dX1_commonOf_21 ?_
    refine lv_goto (tgt := 26) hx hb dX1_commonOf_22 (by decide) ?_
    have hq := Option.some.inj hf
    subst hq
    exact K _ _ _ hP hD hS (lv_sub hl [0] rfl)
  have hf := er1
  refine lc_ge (tgt := 11) hx hb dX1_commonOf_2 dX1_commonOf_3 (by decide) (fun cb => ?_) (fun cb => ?_)
  · have hf := it_t cb hf
    refine lv_lload_n hx hb dX1_commonOf_11 rfl (lv_at hl 0 rfl) ?_
    have hq := Option.some.inj hf
    subst hq
    exact K _ _ _ hP hD hS (lv_sub hl [1] rfl)
  have hf := it_f cb hf
  refine lv_lload_n hx hb dX1_commonOf_6 rfl (lv_at hl 0 rfl) ?_
  refine lv_lneg hx hb dX1_commonOf_7 ?_
  refine lv_goto (tgt := 12) hx hb dX1_commonOf_8 (by decide) ?_
  have hq := Option.some.inj hf
  subst hq
  exact K _ _ _ hP hD hS (lv_sub hl [1] rfl)
set_option maxHeartbeats 4000000 in
set_option maxRecDepth 100000 in
theorem c_X1_make (l : Launch) (g : GG) (a0 : Nat → Nat) (v0_above : Int64) (v0_below : Int64) (p1 : Int64) (p3 : Int64) (hne : (m_X1_make (v0_above, v0_below) p1 p3) ≠ none) : Ct l g yX1_make cX1_make 7 none ({ frames := 1, cells := 0, slots := 0, locals := 30 } : Room) [.ref (a0 0), .long p1, .long p3] (wX1 a0 g v0_above v0_below) (Qv g (m_X1_make (v0_above, v0_below) p1 p3) (fun u => wX1 a0 g u.1 u.2)) 0 0 := by
  obtain ⟨out, hf⟩ := ne_ex hne
  have hf0 := hf
  refine Ct.of (own := RX1) (by decide +kernel) rfl (Nat.le_of_ble_eq_true rfl) ?_
  intro p e s m below meth c hx hb hr hml hown hts hlocks hin hK A H locs hA hP hD hS hE ls hl
  have hl : lv_has ls 7 [(0, .ref (a0 0)), (1, .long p1), (3, .long p3)] := hl
  unfold m_X1_make at hf
  refine lv_lload_n hx hb dX1_make_0 rfl (lv_at hl 1 rfl) ?_
  refine lv_lload_n hx hb dX1_make_1 rfl (lv_at hl 2 rfl) ?_
  refine cLp hP hD hS hA hE (fun hPc hDc hSc => rS (As := [.long p1, .long p3]) (rest := []) hx hb hml hown hts hK (c_X1_commonOf l g p1 p3 (bnd_ne hf)) svS_X1_commonOf kw770 hPc hDc hSc rfl rfl hl.1 (Nat.le_of_ble_eq_true rfl) dX1_make_2 ⟨Nat.le_of_ble_eq_true rfl, Nat.le_of_ble_eq_true rfl, rfl, rfl, Nat.le_of_ble_eq_true rfl, Nat.le_of_ble_eq_true rfl⟩) [] rfl rfl rfl (fun x1 H locs ex1 hP hS => ?_)
  have hf := bnd_of hf ex1
  refine lv_lstore (lv' := [(5, .long x1), (0, .ref (a0 0)), (1, .long p1), (3, .long p3)]) hx hb dX1_make_5 hl (by decide) rfl (fun ls hl => ?_)
  refine lv_lload_n hx hb dX1_make_7 rfl (lv_at hl 3 rfl) ?_
  refine lv_lconst (v := 0) hx hb dX1_make_8 (by decide) ?_
  refine lc_le (tgt := 20) hx hb dX1_make_9 dX1_make_10 (by decide) (fun cb => ?_) (fun cb => ?_)
  · have hf := it_t cb hf
    refine lv_aload_n hx hb dX1_make_20 rfl (lv_at hl 1 rfl) ?_
    refine lv_lconst (v := 0) hx hb dX1_make_21 (by decide) ?_
    refine va_put (D := g.1) (ci := 2) (v := .long (0 : Int64)) (ty := .long) (C := RX1) (T := TX1) (N := 2) hx hb hts layX1 tyX1 tyX1_ok nmX1 hown hK.1 hP hD hS 0 rfl rfl 0 (by decide) (hts _ kw146) (fun _ h9 => h9) rfl (tyX1_ok 0 (by decide)) rfl rfl (Nat.le_of_ble_eq_true rfl) dX1_make_22 (fun H locs hP hD hS => ?_)
    have hP : va_P g.1 vwCl (wX1 a0 g (0 : Int64) v0_below) H := hP
    have hD : va_D A (wX1 a0 g (0 : Int64) v0_below) := hD
    refine lv_aload_n hx hb dX1_make_25 rfl (lv_at hl 1 rfl) ?_
    refine lv_lconst (v := 1) hx hb dX1_make_26 (by decide) ?_
    refine va_put (D := g.1) (ci := 2) (v := .long (1 : Int64)) (ty := .long) (C := RX1) (T := TX1) (N := 2) hx hb hts layX1 tyX1 tyX1_ok nmX1 hown hK.1 hP hD hS 0 rfl rfl 1 (by decide) (hts _ kw147) (fun _ h9 => h9) rfl (tyX1_ok 1 (by decide)) rfl rfl (Nat.le_of_ble_eq_true rfl) dX1_make_27 (fun H locs hP hD hS => ?_)
    have hP : va_P g.1 vwCl (wX1 a0 g (0 : Int64) (1 : Int64)) H := hP
    have hD : va_D A (wX1 a0 g (0 : Int64) (1 : Int64)) := hD
    exact retV (u := ((0 : Int64), (1 : Int64))) (W1 := fun u => wX1 a0 g u.1 u.2) hx hb hr hlocks hS hP hD (hf0.trans hf.symm) dX1_make_30
  have hf := it_f cb hf
  refine lv_lload hx hb dX1_make_13 (lv_at hl 0 rfl) ?_
  refine lv_lconst (v := 0) hx hb dX1_make_15 (by decide) ?_
  refine lc_gt (tgt := 31) hx hb dX1_make_16 dX1_make_17 (by decide) (fun cb => ?_) (fun cb => ?_)
  · have hf := it_t cb hf
    refine lv_aload_n hx hb dX1_make_31 rfl (lv_at hl 1 rfl) ?_
    refine lv_lload_n hx hb dX1_make_32 rfl (lv_at hl 2 rfl) ?_
    refine lv_lload hx hb dX1_make_33 (lv_at hl 0 rfl) ?_
    have hi := it_n hf
    have hf := it_t hi hf
    refine lv_ldiv hx hb dX1_make_35 hi ?_
    refine va_put (D := g.1) (ci := 2) (v := .long (p1 / x1)) (ty := .long) (C := RX1) (T := TX1) (N := 2) hx hb hts layX1 tyX1 tyX1_ok nmX1 hown hK.1 hP hD hS 0 rfl rfl 0 (by decide) (hts _ kw146) (fun _ h9 => h9) rfl (tyX1_ok 0 (by decide)) rfl rfl (Nat.le_of_ble_eq_true rfl) dX1_make_36 (fun H locs hP hD hS => ?_)
    have hP : va_P g.1 vwCl (wX1 a0 g (p1 / x1) v0_below) H := hP
    have hD : va_D A (wX1 a0 g (p1 / x1) v0_below) := hD
    refine lv_aload_n hx hb dX1_make_39 rfl (lv_at hl 1 rfl) ?_
    refine lv_lload_n hx hb dX1_make_40 rfl (lv_at hl 3 rfl) ?_
    refine lv_lload hx hb dX1_make_41 (lv_at hl 0 rfl) ?_
    have hi := it_n hf
    have hf := it_t hi hf
    refine lv_ldiv hx hb dX1_make_43 hi ?_
    refine va_put (D := g.1) (ci := 2) (v := .long (p3 / x1)) (ty := .long) (C := RX1) (T := TX1) (N := 2) hx hb hts layX1 tyX1 tyX1_ok nmX1 hown hK.1 hP hD hS 0 rfl rfl 1 (by decide) (hts _ kw147) (fun _ h9 => h9) rfl (tyX1_ok 1 (by decide)) rfl rfl (Nat.le_of_ble_eq_true rfl) dX1_make_44 (fun H locs hP hD hS => ?_)
    have hP : va_P g.1 vwCl (wX1 a0 g (p1 / x1) (p3 / x1)) H := hP
    have hD : va_D A (wX1 a0 g (p1 / x1) (p3 / x1)) := hD
    exact retV (u := ((p1 / x1), (p3 / x1))) (W1 := fun u => wX1 a0 g u.1 u.2) hx hb hr hlocks hS hP hD (hf0.trans hf.symm) dX1_make_47
  have hf := it_f cb hf
  refine lv_aload_n hx hb dX1_make_20 rfl (lv_at hl 1 rfl) ?_
  refine lv_lconst (v := 0) hx hb dX1_make_21 (by decide) ?_
  refine va_put (D := g.1) (ci := 2) (v := .long (0 : Int64)) (ty := .long) (C := RX1) (T := TX1) (N := 2) hx hb hts layX1 tyX1 tyX1_ok nmX1 hown hK.1 hP hD hS 0 rfl rfl 0 (by decide) (hts _ kw146) (fun _ h9 => h9) rfl (tyX1_ok 0 (by decide)) rfl rfl (Nat.le_of_ble_eq_true rfl) dX1_make_22 (fun H locs hP hD hS => ?_)
  have hP : va_P g.1 vwCl (wX1 a0 g (0 : Int64) v0_below) H := hP
  have hD : va_D A (wX1 a0 g (0 : Int64) v0_below) := hD
  refine lv_aload_n hx hb dX1_make_25 rfl (lv_at hl 1 rfl) ?_
  refine lv_lconst (v := 1) hx hb dX1_make_26 (by decide) ?_
  refine va_put (D := g.1) (ci := 2) (v := .long (1 : Int64)) (ty := .long) (C := RX1) (T := TX1) (N := 2) hx hb hts layX1 tyX1 tyX1_ok nmX1 hown hK.1 hP hD hS 0 rfl rfl 1 (by decide) (hts _ kw147) (fun _ h9 => h9) rfl (tyX1_ok 1 (by decide)) rfl rfl (Nat.le_of_ble_eq_true rfl) dX1_make_27 (fun H locs hP hD hS => ?_)
  have hP : va_P g.1 vwCl (wX1 a0 g (0 : Int64) (1 : Int64)) H := hP
  have hD : va_D A (wX1 a0 g (0 : Int64) (1 : Int64)) := hD
  exact retV (u := ((0 : Int64), (1 : Int64))) (W1 := fun u => wX1 a0 g u.1 u.2) hx hb hr hlocks hS hP hD (hf0.trans hf.symm) dX1_make_30
set_option maxHeartbeats 4000000 in
set_option maxRecDepth 100000 in
theorem c_X1_add (l : Launch) (g : GG) (a0 : Nat → Nat) (v0_above : Int64) (v0_below : Int64) (p1 : Int64) (p3 : Int64) (hne : (m_X1_add (v0_above, v0_below) p1 p3) ≠ none) : Ct l g yX1_add cX1_add 7 none ({ frames := 2, cells := 0, slots := 0, locals := 56 } : Room) [.ref (a0 0), .long p1, .long p3] (wX1 a0 g v0_above v0_below) (Qv g (m_X1_add (v0_above, v0_below) p1 p3) (fun u => wX1 a0 g u.1 u.2)) 0 0 := by
  obtain ⟨out, hf⟩ := ne_ex hne
  have hf0 := hf
  refine Ct.of (own := RX1) (by decide +kernel) rfl (Nat.le_of_ble_eq_true rfl) ?_
  intro p e s m below meth c hx hb hr hml hown hts hlocks hin hK A H locs hA hP hD hS hE ls hl
  have hl : lv_has ls 7 [(0, .ref (a0 0)), (1, .long p1), (3, .long p3)] := hl
  unfold m_X1_add at hf
  refine lv_aload_n hx hb dX1_add_0 rfl (lv_at hl 0 rfl) ?_
  refine va_get (D := g.1) (ci := 2) (v := .long v0_below) (C := RX1) (T := TX1) (N := 2) hx hb hts layX1 hown hK.1 hP 0 rfl rfl 1 (by decide) (hts _ kw147) (fun _ h9 => h9) rfl dX1_add_1 ?_
  refine lv_lload_n hx hb dX1_add_4 rfl (lv_at hl 2 rfl) ?_
  refine cLp hP hD hS hA hE (fun hPc hDc hSc => rS (As := [.long v0_below, .long p3]) (rest := []) hx hb hml hown hts hK (c_X1_commonOf l g v0_below p3 (bnd_ne hf)) svS_X1_commonOf kw770 hPc hDc hSc rfl rfl hl.1 (Nat.le_of_ble_eq_true rfl) dX1_add_5 ⟨Nat.le_of_ble_eq_true rfl, Nat.le_of_ble_eq_true rfl, rfl, rfl, Nat.le_of_ble_eq_true rfl, Nat.le_of_ble_eq_true rfl⟩) [] rfl rfl rfl (fun x1 H locs ex1 hP hS => ?_)
  have hf := bnd_of hf ex1
  refine lv_lstore (lv' := [(5, .long x1), (0, .ref (a0 0)), (1, .long p1), (3, .long p3)]) hx hb dX1_add_8 hl (by decide) rfl (fun ls hl => ?_)
  refine lv_lload hx hb dX1_add_10 (lv_at hl 0 rfl) ?_
  refine lv_lconst (v := 0) hx hb dX1_add_12 (by decide) ?_
  refine lc_le (tgt := 49) hx hb dX1_add_13 dX1_add_14 (by decide) (fun cb => ?_) (fun cb => ?_)
  · have hf := it_t cb hf
    exact retV (u := (v0_above, v0_below)) (W1 := fun u => wX1 a0 g u.1 u.2) hx hb hr hlocks hS hP hD (hf0.trans hf.symm) dX1_add_49
  have hf := it_f cb hf
  refine lv_aload_n hx hb dX1_add_17 rfl (lv_at hl 1 rfl) ?_
  refine lv_aload_n hx hb dX1_add_18 rfl (lv_at hl 1 rfl) ?_
  refine va_get (D := g.1) (ci := 2) (v := .long v0_above) (C := RX1) (T := TX1) (N := 2) hx hb hts layX1 hown hK.1 hP 0 rfl rfl 0 (by decide) (hts _ kw146) (fun _ h9 => h9) rfl dX1_add_19 ?_
  refine lv_lload_n hx hb dX1_add_22 rfl (lv_at hl 3 rfl) ?_
  refine lv_lload hx hb dX1_add_23 (lv_at hl 0 rfl) ?_
  have hi := it_n hf
  have hf := it_t hi hf
  refine lv_ldiv hx hb dX1_add_25 hi ?_
  refine lv_lmul hx hb dX1_add_26 ?_
  refine lv_lload_n hx hb dX1_add_27 rfl (lv_at hl 2 rfl) ?_
  refine lv_aload_n hx hb dX1_add_28 rfl (lv_at hl 1 rfl) ?_
  refine va_get (D := g.1) (ci := 2) (v := .long v0_below) (C := RX1) (T := TX1) (N := 2) hx hb hts layX1 hown hK.1 hP 0 rfl rfl 1 (by decide) (hts _ kw147) (fun _ h9 => h9) rfl dX1_add_29 ?_
  refine lv_lload hx hb dX1_add_32 (lv_at hl 0 rfl) ?_
  have hi := it_n hf
  have hf := it_t hi hf
  refine lv_ldiv hx hb dX1_add_34 hi ?_
  refine lv_lmul hx hb dX1_add_35 ?_
  refine lv_ladd hx hb dX1_add_36 ?_
  refine lv_aload_n hx hb dX1_add_37 rfl (lv_at hl 1 rfl) ?_
  refine va_get (D := g.1) (ci := 2) (v := .long v0_below) (C := RX1) (T := TX1) (N := 2) hx hb hts layX1 hown hK.1 hP 0 rfl rfl 1 (by decide) (hts _ kw147) (fun _ h9 => h9) rfl dX1_add_38 ?_
  refine lv_lload hx hb dX1_add_41 (lv_at hl 0 rfl) ?_
  have hi := it_n hf
  have hf := it_t hi hf
  refine lv_ldiv hx hb dX1_add_43 hi ?_
  refine lv_lload_n hx hb dX1_add_44 rfl (lv_at hl 3 rfl) ?_
  refine lv_lmul hx hb dX1_add_45 ?_
  refine cV hP hD hS hA hE (fun hPc hDc hSc => rV (As := [.long ((v0_above * (p3 / x1)) + (p1 * (v0_below / x1))), .long ((v0_below / x1) * p3)]) (rest := []) hx hb hml hown hts hK (c_X1_make l g a0 v0_above v0_below ((v0_above * (p3 / x1)) + (p1 * (v0_below / x1))) ((v0_below / x1) * p3) (bnd_ne hf)) svV_X1_make kw819 rfl rfl hPc hDc hSc rfl rfl hl.1 (Nat.le_of_ble_eq_true rfl) dX1_add_46 ⟨Nat.le_of_ble_eq_true rfl, Nat.le_of_ble_eq_true rfl, rfl, rfl, Nat.le_of_ble_eq_true rfl, Nat.le_of_ble_eq_true rfl⟩) [(0, 1)] rfl rfl rfl (fun _ => rfl) (fun x2 H locs ex2 hP hD hS => ?_)
  have hf := bnd_of hf ex2
  have hP : va_P g.1 vwCl (wX1 a0 g x2.1 x2.2) H := hP
  have hD : va_D A (wX1 a0 g x2.1 x2.2) := hD
  exact retV (u := (x2.1, x2.2)) (W1 := fun u => wX1 a0 g u.1 u.2) hx hb hr hlocks hS hP hD (hf0.trans hf.symm) dX1_add_49
set_option maxHeartbeats 4000000 in
set_option maxRecDepth 100000 in
theorem c_X1_isBelow (l : Launch) (g : GG) (a0 : Nat → Nat) (v0_above : Int64) (v0_below : Int64) (p1 : Int64) (p3 : Int64) (hne : (m_X1_isBelow (v0_above, v0_below) p1 p3) ≠ none) : Ct l g yX1_isBelow cX1_isBelow 5 (some .boolean) ({ frames := 0, cells := 0, slots := 0, locals := 0 } : Room) [.ref (a0 0), .long p1, .long p3] (wX1 a0 g v0_above v0_below) (Qi g .boolean (m_X1_isBelow (v0_above, v0_below) p1 p3) (fun u => u) (fun u => wX1 a0 g v0_above v0_below)) 0 0 := by
  obtain ⟨out, hf⟩ := ne_ex hne
  have hf0 := hf
  refine Ct.of (own := RX1) (by decide +kernel) rfl (Nat.le_of_ble_eq_true rfl) ?_
  intro p e s m below meth c hx hb hr hml hown hts hlocks hin hK A H locs hA hP hD hS hE ls hl
  have hl : lv_has ls 5 [(0, .ref (a0 0)), (1, .long p1), (3, .long p3)] := hl
  unfold m_X1_isBelow at hf
  refine lv_aload_n hx hb dX1_isBelow_0 rfl (lv_at hl 0 rfl) ?_
  refine va_get (D := g.1) (ci := 2) (v := .long v0_above) (C := RX1) (T := TX1) (N := 2) hx hb hts layX1 hown hK.1 hP 0 rfl rfl 0 (by decide) (hts _ kw146) (fun _ h9 => h9) rfl dX1_isBelow_1 ?_
  refine lv_lload_n hx hb dX1_isBelow_4 rfl (lv_at hl 2 rfl) ?_
  refine lv_lmul hx hb dX1_isBelow_5 ?_
  refine lv_lload_n hx hb dX1_isBelow_6 rfl (lv_at hl 1 rfl) ?_
  refine lv_aload_n hx hb dX1_isBelow_7 rfl (lv_at hl 0 rfl) ?_
  refine va_get (D := g.1) (ci := 2) (v := .long v0_below) (C := RX1) (T := TX1) (N := 2) hx hb hts layX1 hown hK.1 hP 0 rfl rfl 1 (by decide) (hts _ kw147) (fun _ h9 => h9) rfl dX1_isBelow_8 ?_
  refine lv_lmul hx hb dX1_isBelow_11 ?_
  refine lc_ge (tgt := 20) hx hb dX1_isBelow_12 dX1_isBelow_13 (by decide) (fun cb => ?_) (fun cb => ?_)
  · have hf := it_t cb hf
    refine lv_iconst (v := 0) hx hb dX1_isBelow_20 (by decide) ?_
    exact retI (v := (0 : Int32)) (u := (0 : Int32)) (val := fun u => u) (W1 := fun u => wX1 a0 g v0_above v0_below) hx hb hr hlocks hS hP hD (hf0.trans hf.symm) rfl rfl dX1_isBelow_21
  have hf := it_f cb hf
  refine lv_iconst (v := 1) hx hb dX1_isBelow_16 (by decide) ?_
  refine lv_goto (tgt := 21) hx hb dX1_isBelow_17 (by decide) ?_
  exact retI (v := (1 : Int32)) (u := (1 : Int32)) (val := fun u => u) (W1 := fun u => wX1 a0 g v0_above v0_below) hx hb hr hlocks hS hP hD (hf0.trans hf.symm) rfl rfl dX1_isBelow_21
set_option maxHeartbeats 4000000 in
set_option maxRecDepth 100000 in
theorem c_X1_partOf (l : Launch) (g : GG) (a0 : Nat → Nat) (v0_above : Int64) (v0_below : Int64) (p1 : Int32) (hne : (m_X1_partOf (v0_above, v0_below) p1) ≠ none) : Ct l g yX1_partOf cX1_partOf 2 (some .long) ({ frames := 0, cells := 0, slots := 0, locals := 0 } : Room) [.ref (a0 0), .int p1] (wX1 a0 g v0_above v0_below) (Ql g (m_X1_partOf (v0_above, v0_below) p1) (fun u => u) (fun u => wX1 a0 g v0_above v0_below)) 0 0 := by
  obtain ⟨out, hf⟩ := ne_ex hne
  have hf0 := hf
  refine Ct.of (own := RX1) (by decide +kernel) rfl (Nat.le_of_ble_eq_true rfl) ?_
  intro p e s m below meth c hx hb hr hml hown hts hlocks hin hK A H locs hA hP hD hS hE ls hl
  have hl : lv_has ls 2 [(0, .ref (a0 0)), (1, .int p1)] := hl
  unfold m_X1_partOf at hf
  refine lv_iload_n hx hb dX1_partOf_0 rfl (lv_at hl 1 rfl) ?_
  refine lv_if_ne (tgt := 11) hx hb dX1_partOf_1 (by decide) (fun cb => ?_) (fun cb => ?_)
  · have hf := it_f cb hf
    refine lv_aload_n hx hb dX1_partOf_11 rfl (lv_at hl 0 rfl) ?_
    refine va_get (D := g.1) (ci := 2) (v := .long v0_below) (C := RX1) (T := TX1) (N := 2) hx hb hts layX1 hown hK.1 hP 0 rfl rfl 1 (by decide) (hts _ kw147) (fun _ h9 => h9) rfl dX1_partOf_12 ?_
    exact retL (u := v0_below) (val := fun u => u) (W1 := fun u => wX1 a0 g v0_above v0_below) hx hb hr hlocks hS hP hD (hf0.trans hf.symm) rfl dX1_partOf_15
  have hf := it_t cb hf
  refine lv_aload_n hx hb dX1_partOf_4 rfl (lv_at hl 0 rfl) ?_
  refine va_get (D := g.1) (ci := 2) (v := .long v0_above) (C := RX1) (T := TX1) (N := 2) hx hb hts layX1 hown hK.1 hP 0 rfl rfl 0 (by decide) (hts _ kw146) (fun _ h9 => h9) rfl dX1_partOf_5 ?_
  refine lv_goto (tgt := 15) hx hb dX1_partOf_8 (by decide) ?_
  exact retL (u := v0_above) (val := fun u => u) (W1 := fun u => wX1 a0 g v0_above v0_below) hx hb hr hlocks hS hP hD (hf0.trans hf.symm) rfl dX1_partOf_15
set_option maxHeartbeats 4000000 in
set_option maxRecDepth 100000 in
theorem c_X6_copyFrom (l : Launch) (g : GG) (a0 : Nat → Nat) (v0_raws : (Nat → Int32)) (v0_kinds : (Nat → Int32)) (v0_figures : (Nat → Int32)) (v0_heavies : (Nat → Int32)) (v0_places : (Nat → Int32)) (v0_papers : Int32) (v0_lowers : (Nat → Int32)) (v0_uppers : (Nat → Int32)) (v0_rules : Int32) (v0_bounds : (Nat → Int32)) (v0_boundCount : Int32) (v0_tieWay : Int32) (v0_reached : (Nat → Int32)) (a1 : Nat → Nat) (v1_raws : (Nat → Int32)) (v1_kinds : (Nat → Int32)) (v1_figures : (Nat → Int32)) (v1_heavies : (Nat → Int32)) (v1_places : (Nat → Int32)) (v1_papers : Int32) (v1_lowers : (Nat → Int32)) (v1_uppers : (Nat → Int32)) (v1_rules : Int32) (v1_bounds : (Nat → Int32)) (v1_boundCount : Int32) (v1_tieWay : Int32) (v1_reached : (Nat → Int32)) (hne : (m_X6_copyFrom (v0_raws, v0_kinds, v0_figures, v0_heavies, v0_places, v0_papers, v0_lowers, v0_uppers, v0_rules, v0_bounds, v0_boundCount, v0_tieWay, v0_reached) (v1_raws, v1_kinds, v1_figures, v1_heavies, v1_places, v1_papers, v1_lowers, v1_uppers, v1_rules, v1_bounds, v1_boundCount, v1_tieWay, v1_reached)) ≠ none) : Ct l g yX6_copyFrom cX6_copyFrom 2 none ({ frames := 2, cells := 0, slots := 0, locals := 43 } : Room) [.ref (a0 0), .ref (a1 0)] (wX6 a0 g v0_raws v0_kinds v0_figures v0_heavies v0_places v0_papers v0_lowers v0_uppers v0_rules v0_bounds v0_boundCount v0_tieWay v0_reached ++ wX6 a1 g v1_raws v1_kinds v1_figures v1_heavies v1_places v1_papers v1_lowers v1_uppers v1_rules v1_bounds v1_boundCount v1_tieWay v1_reached) (Qv g (m_X6_copyFrom (v0_raws, v0_kinds, v0_figures, v0_heavies, v0_places, v0_papers, v0_lowers, v0_uppers, v0_rules, v0_bounds, v0_boundCount, v0_tieWay, v0_reached) (v1_raws, v1_kinds, v1_figures, v1_heavies, v1_places, v1_papers, v1_lowers, v1_uppers, v1_rules, v1_bounds, v1_boundCount, v1_tieWay, v1_reached)) (fun u => wX6 a0 g u.1 u.2.1 u.2.2.1 u.2.2.2.1 u.2.2.2.2.1 u.2.2.2.2.2.1 u.2.2.2.2.2.2.1 u.2.2.2.2.2.2.2.1 u.2.2.2.2.2.2.2.2.1 u.2.2.2.2.2.2.2.2.2.1 u.2.2.2.2.2.2.2.2.2.2.1 u.2.2.2.2.2.2.2.2.2.2.2 v0_reached ++ wX6 a1 g v1_raws v1_kinds v1_figures v1_heavies v1_places v1_papers v1_lowers v1_uppers v1_rules v1_bounds v1_boundCount v1_tieWay v1_reached)) 0 0 := by
  obtain ⟨out, hf⟩ := ne_ex hne
  have hf0 := hf
  refine Ct.of (own := RX6) (by decide +kernel) rfl (Nat.le_of_ble_eq_true rfl) ?_
  intro p e s m below meth c hx hb hr hml hown hts hlocks hin hK A H locs hA hP hD hS hE ls hl
  have hl : lv_has ls 2 [(0, .ref (a0 0)), (1, .ref (a1 0))] := hl
  unfold m_X6_copyFrom at hf
  refine lv_aload_n hx hb dX6_copyFrom_0 rfl (lv_at hl 0 rfl) ?_
  refine va_get (D := g.1) (ci := 7) (v := .ref (a0 1)) (C := RX6) (T := TX6) (N := 13) hx hb hts layX6 hown hK.1 hP 0 rfl rfl 0 (by decide) (hts _ kw49) (fun _ h9 => h9) rfl dX6_copyFrom_1 ?_
  refine lv_aload_n hx hb dX6_copyFrom_4 rfl (lv_at hl 1 rfl) ?_
  refine va_get (D := g.1) (ci := 7) (v := .ref (a1 1)) (C := RX6) (T := TX6) (N := 13) hx hb hts layX6 hown hK.1 hP 19 rfl rfl 0 (by decide) (hts _ kw49) (fun _ h9 => h9) rfl dX6_copyFrom_5 ?_
  refine cV hP hD hS hA hE (fun hPc hDc hSc => rV (As := [.ref (a1 1)]) (rest := []) hx hb hml hown hts hK (c_X2_copyFrom l g (fun i => a0 (i + 1)) 7 v0_raws (fun i => a1 (i + 1)) 7 v1_raws (bnd_ne hf)) svV_X2_copyFrom kw380 rfl rfl hPc hDc hSc rfl rfl hl.1 (Nat.le_of_ble_eq_true rfl) dX6_copyFrom_8 ⟨Nat.le_of_ble_eq_true rfl, Nat.le_of_ble_eq_true rfl, rfl, rfl, Nat.le_of_ble_eq_true rfl, Nat.le_of_ble_eq_true rfl⟩) [(1, 2), (20, 2)] rfl rfl rfl (fun _ => rfl) (fun x1 H locs ex1 hP hD hS => ?_)
  have hf := bnd_of hf ex1
  have hP : va_P g.1 vwCl (wX6 a0 g x1 v0_kinds v0_figures v0_heavies v0_places v0_papers v0_lowers v0_uppers v0_rules v0_bounds v0_boundCount v0_tieWay v0_reached ++ wX6 a1 g v1_raws v1_kinds v1_figures v1_heavies v1_places v1_papers v1_lowers v1_uppers v1_rules v1_bounds v1_boundCount v1_tieWay v1_reached) H := hP
  have hD : va_D A (wX6 a0 g x1 v0_kinds v0_figures v0_heavies v0_places v0_papers v0_lowers v0_uppers v0_rules v0_bounds v0_boundCount v0_tieWay v0_reached ++ wX6 a1 g v1_raws v1_kinds v1_figures v1_heavies v1_places v1_papers v1_lowers v1_uppers v1_rules v1_bounds v1_boundCount v1_tieWay v1_reached) := hD
  refine lv_aload_n hx hb dX6_copyFrom_11 rfl (lv_at hl 0 rfl) ?_
  refine va_get (D := g.1) (ci := 7) (v := .ref (a0 3)) (C := RX6) (T := TX6) (N := 13) hx hb hts layX6 hown hK.1 hP 0 rfl rfl 1 (by decide) (hts _ kw50) (fun _ h9 => h9) rfl dX6_copyFrom_12 ?_
  refine lv_aload_n hx hb dX6_copyFrom_15 rfl (lv_at hl 1 rfl) ?_
  refine va_get (D := g.1) (ci := 7) (v := .ref (a1 3)) (C := RX6) (T := TX6) (N := 13) hx hb hts layX6 hown hK.1 hP 19 rfl rfl 1 (by decide) (hts _ kw50) (fun _ h9 => h9) rfl dX6_copyFrom_16 ?_
  refine cV hP hD hS hA hE (fun hPc hDc hSc => rV (As := [.ref (a1 3)]) (rest := []) hx hb hml hown hts hK (c_X2_copyFrom l g (fun i => a0 (i + 3)) 7 v0_kinds (fun i => a1 (i + 3)) 7 v1_kinds (bnd_ne hf)) svV_X2_copyFrom kw380 rfl rfl hPc hDc hSc rfl rfl hl.1 (Nat.le_of_ble_eq_true rfl) dX6_copyFrom_19 ⟨Nat.le_of_ble_eq_true rfl, Nat.le_of_ble_eq_true rfl, rfl, rfl, Nat.le_of_ble_eq_true rfl, Nat.le_of_ble_eq_true rfl⟩) [(3, 2), (22, 2)] rfl rfl rfl (fun _ => rfl) (fun x2 H locs ex2 hP hD hS => ?_)
  have hf := bnd_of hf ex2
  have hP : va_P g.1 vwCl (wX6 a0 g x1 x2 v0_figures v0_heavies v0_places v0_papers v0_lowers v0_uppers v0_rules v0_bounds v0_boundCount v0_tieWay v0_reached ++ wX6 a1 g v1_raws v1_kinds v1_figures v1_heavies v1_places v1_papers v1_lowers v1_uppers v1_rules v1_bounds v1_boundCount v1_tieWay v1_reached) H := hP
  have hD : va_D A (wX6 a0 g x1 x2 v0_figures v0_heavies v0_places v0_papers v0_lowers v0_uppers v0_rules v0_bounds v0_boundCount v0_tieWay v0_reached ++ wX6 a1 g v1_raws v1_kinds v1_figures v1_heavies v1_places v1_papers v1_lowers v1_uppers v1_rules v1_bounds v1_boundCount v1_tieWay v1_reached) := hD
  refine lv_aload_n hx hb dX6_copyFrom_22 rfl (lv_at hl 0 rfl) ?_
  refine va_get (D := g.1) (ci := 7) (v := .ref (a0 5)) (C := RX6) (T := TX6) (N := 13) hx hb hts layX6 hown hK.1 hP 0 rfl rfl 2 (by decide) (hts _ kw51) (fun _ h9 => h9) rfl dX6_copyFrom_23 ?_
  refine lv_aload_n hx hb dX6_copyFrom_26 rfl (lv_at hl 1 rfl) ?_
  refine va_get (D := g.1) (ci := 7) (v := .ref (a1 5)) (C := RX6) (T := TX6) (N := 13) hx hb hts layX6 hown hK.1 hP 19 rfl rfl 2 (by decide) (hts _ kw51) (fun _ h9 => h9) rfl dX6_copyFrom_27 ?_
  refine cV hP hD hS hA hE (fun hPc hDc hSc => rV (As := [.ref (a1 5)]) (rest := []) hx hb hml hown hts hK (c_X2_copyFrom l g (fun i => a0 (i + 5)) 7 v0_figures (fun i => a1 (i + 5)) 7 v1_figures (bnd_ne hf)) svV_X2_copyFrom kw380 rfl rfl hPc hDc hSc rfl rfl hl.1 (Nat.le_of_ble_eq_true rfl) dX6_copyFrom_30 ⟨Nat.le_of_ble_eq_true rfl, Nat.le_of_ble_eq_true rfl, rfl, rfl, Nat.le_of_ble_eq_true rfl, Nat.le_of_ble_eq_true rfl⟩) [(5, 2), (24, 2)] rfl rfl rfl (fun _ => rfl) (fun x3 H locs ex3 hP hD hS => ?_)
  have hf := bnd_of hf ex3
  have hP : va_P g.1 vwCl (wX6 a0 g x1 x2 x3 v0_heavies v0_places v0_papers v0_lowers v0_uppers v0_rules v0_bounds v0_boundCount v0_tieWay v0_reached ++ wX6 a1 g v1_raws v1_kinds v1_figures v1_heavies v1_places v1_papers v1_lowers v1_uppers v1_rules v1_bounds v1_boundCount v1_tieWay v1_reached) H := hP
  have hD : va_D A (wX6 a0 g x1 x2 x3 v0_heavies v0_places v0_papers v0_lowers v0_uppers v0_rules v0_bounds v0_boundCount v0_tieWay v0_reached ++ wX6 a1 g v1_raws v1_kinds v1_figures v1_heavies v1_places v1_papers v1_lowers v1_uppers v1_rules v1_bounds v1_boundCount v1_tieWay v1_reached) := hD
  refine lv_aload_n hx hb dX6_copyFrom_33 rfl (lv_at hl 0 rfl) ?_
  refine va_get (D := g.1) (ci := 7) (v := .ref (a0 7)) (C := RX6) (T := TX6) (N := 13) hx hb hts layX6 hown hK.1 hP 0 rfl rfl 3 (by decide) (hts _ kw52) (fun _ h9 => h9) rfl dX6_copyFrom_34 ?_
  refine lv_aload_n hx hb dX6_copyFrom_37 rfl (lv_at hl 1 rfl) ?_
  refine va_get (D := g.1) (ci := 7) (v := .ref (a1 7)) (C := RX6) (T := TX6) (N := 13) hx hb hts layX6 hown hK.1 hP 19 rfl rfl 3 (by decide) (hts _ kw52) (fun _ h9 => h9) rfl dX6_copyFrom_38 ?_
  refine cV hP hD hS hA hE (fun hPc hDc hSc => rV (As := [.ref (a1 7)]) (rest := []) hx hb hml hown hts hK (c_X2_copyFrom l g (fun i => a0 (i + 7)) 7 v0_heavies (fun i => a1 (i + 7)) 7 v1_heavies (bnd_ne hf)) svV_X2_copyFrom kw380 rfl rfl hPc hDc hSc rfl rfl hl.1 (Nat.le_of_ble_eq_true rfl) dX6_copyFrom_41 ⟨Nat.le_of_ble_eq_true rfl, Nat.le_of_ble_eq_true rfl, rfl, rfl, Nat.le_of_ble_eq_true rfl, Nat.le_of_ble_eq_true rfl⟩) [(7, 2), (26, 2)] rfl rfl rfl (fun _ => rfl) (fun x4 H locs ex4 hP hD hS => ?_)
  have hf := bnd_of hf ex4
  have hP : va_P g.1 vwCl (wX6 a0 g x1 x2 x3 x4 v0_places v0_papers v0_lowers v0_uppers v0_rules v0_bounds v0_boundCount v0_tieWay v0_reached ++ wX6 a1 g v1_raws v1_kinds v1_figures v1_heavies v1_places v1_papers v1_lowers v1_uppers v1_rules v1_bounds v1_boundCount v1_tieWay v1_reached) H := hP
  have hD : va_D A (wX6 a0 g x1 x2 x3 x4 v0_places v0_papers v0_lowers v0_uppers v0_rules v0_bounds v0_boundCount v0_tieWay v0_reached ++ wX6 a1 g v1_raws v1_kinds v1_figures v1_heavies v1_places v1_papers v1_lowers v1_uppers v1_rules v1_bounds v1_boundCount v1_tieWay v1_reached) := hD
  refine lv_aload_n hx hb dX6_copyFrom_44 rfl (lv_at hl 0 rfl) ?_
  refine va_get (D := g.1) (ci := 7) (v := .ref (a0 9)) (C := RX6) (T := TX6) (N := 13) hx hb hts layX6 hown hK.1 hP 0 rfl rfl 4 (by decide) (hts _ kw53) (fun _ h9 => h9) rfl dX6_copyFrom_45 ?_
  refine lv_aload_n hx hb dX6_copyFrom_48 rfl (lv_at hl 1 rfl) ?_
  refine va_get (D := g.1) (ci := 7) (v := .ref (a1 9)) (C := RX6) (T := TX6) (N := 13) hx hb hts layX6 hown hK.1 hP 19 rfl rfl 4 (by decide) (hts _ kw53) (fun _ h9 => h9) rfl dX6_copyFrom_49 ?_
  refine cV hP hD hS hA hE (fun hPc hDc hSc => rV (As := [.ref (a1 9)]) (rest := []) hx hb hml hown hts hK (c_X2_copyFrom l g (fun i => a0 (i + 9)) 7 v0_places (fun i => a1 (i + 9)) 7 v1_places (bnd_ne hf)) svV_X2_copyFrom kw380 rfl rfl hPc hDc hSc rfl rfl hl.1 (Nat.le_of_ble_eq_true rfl) dX6_copyFrom_52 ⟨Nat.le_of_ble_eq_true rfl, Nat.le_of_ble_eq_true rfl, rfl, rfl, Nat.le_of_ble_eq_true rfl, Nat.le_of_ble_eq_true rfl⟩) [(9, 2), (28, 2)] rfl rfl rfl (fun _ => rfl) (fun x5 H locs ex5 hP hD hS => ?_)
  have hf := bnd_of hf ex5
  have hP : va_P g.1 vwCl (wX6 a0 g x1 x2 x3 x4 x5 v0_papers v0_lowers v0_uppers v0_rules v0_bounds v0_boundCount v0_tieWay v0_reached ++ wX6 a1 g v1_raws v1_kinds v1_figures v1_heavies v1_places v1_papers v1_lowers v1_uppers v1_rules v1_bounds v1_boundCount v1_tieWay v1_reached) H := hP
  have hD : va_D A (wX6 a0 g x1 x2 x3 x4 x5 v0_papers v0_lowers v0_uppers v0_rules v0_bounds v0_boundCount v0_tieWay v0_reached ++ wX6 a1 g v1_raws v1_kinds v1_figures v1_heavies v1_places v1_papers v1_lowers v1_uppers v1_rules v1_bounds v1_boundCount v1_tieWay v1_reached) := hD
  refine lv_aload_n hx hb dX6_copyFrom_55 rfl (lv_at hl 0 rfl) ?_
  refine lv_aload_n hx hb dX6_copyFrom_56 rfl (lv_at hl 1 rfl) ?_
  refine va_get (D := g.1) (ci := 7) (v := .int v1_papers) (C := RX6) (T := TX6) (N := 13) hx hb hts layX6 hown hK.1 hP 19 rfl rfl 5 (by decide) (hts _ kw54) (fun _ h9 => h9) rfl dX6_copyFrom_57 ?_
  refine va_put (D := g.1) (ci := 7) (v := .int v1_papers) (ty := .int) (C := RX6) (T := TX6) (N := 13) hx hb hts layX6 tyX6 tyX6_ok nmX6 hown hK.1 hP hD hS 0 rfl rfl 5 (by decide) (hts _ kw54) (fun _ h9 => h9) rfl (tyX6_ok 5 (by decide)) rfl rfl (Nat.le_of_ble_eq_true rfl) dX6_copyFrom_60 (fun H locs hP hD hS => ?_)
  have hP : va_P g.1 vwCl (wX6 a0 g x1 x2 x3 x4 x5 v1_papers v0_lowers v0_uppers v0_rules v0_bounds v0_boundCount v0_tieWay v0_reached ++ wX6 a1 g v1_raws v1_kinds v1_figures v1_heavies v1_places v1_papers v1_lowers v1_uppers v1_rules v1_bounds v1_boundCount v1_tieWay v1_reached) H := hP
  have hD : va_D A (wX6 a0 g x1 x2 x3 x4 x5 v1_papers v0_lowers v0_uppers v0_rules v0_bounds v0_boundCount v0_tieWay v0_reached ++ wX6 a1 g v1_raws v1_kinds v1_figures v1_heavies v1_places v1_papers v1_lowers v1_uppers v1_rules v1_bounds v1_boundCount v1_tieWay v1_reached) := hD
  refine lv_aload_n hx hb dX6_copyFrom_63 rfl (lv_at hl 0 rfl) ?_
  refine va_get (D := g.1) (ci := 7) (v := .ref (a0 11)) (C := RX6) (T := TX6) (N := 13) hx hb hts layX6 hown hK.1 hP 0 rfl rfl 6 (by decide) (hts _ kw55) (fun _ h9 => h9) rfl dX6_copyFrom_64 ?_
  refine lv_aload_n hx hb dX6_copyFrom_67 rfl (lv_at hl 1 rfl) ?_
  refine va_get (D := g.1) (ci := 7) (v := .ref (a1 11)) (C := RX6) (T := TX6) (N := 13) hx hb hts layX6 hown hK.1 hP 19 rfl rfl 6 (by decide) (hts _ kw55) (fun _ h9 => h9) rfl dX6_copyFrom_68 ?_
  refine cV hP hD hS hA hE (fun hPc hDc hSc => rV (As := [.ref (a1 11)]) (rest := []) hx hb hml hown hts hK (c_X2_copyFrom l g (fun i => a0 (i + 11)) 12 v0_lowers (fun i => a1 (i + 11)) 12 v1_lowers (bnd_ne hf)) svV_X2_copyFrom kw380 rfl rfl hPc hDc hSc rfl rfl hl.1 (Nat.le_of_ble_eq_true rfl) dX6_copyFrom_71 ⟨Nat.le_of_ble_eq_true rfl, Nat.le_of_ble_eq_true rfl, rfl, rfl, Nat.le_of_ble_eq_true rfl, Nat.le_of_ble_eq_true rfl⟩) [(11, 2), (30, 2)] rfl rfl rfl (fun _ => rfl) (fun x6 H locs ex6 hP hD hS => ?_)
  have hf := bnd_of hf ex6
  have hP : va_P g.1 vwCl (wX6 a0 g x1 x2 x3 x4 x5 v1_papers x6 v0_uppers v0_rules v0_bounds v0_boundCount v0_tieWay v0_reached ++ wX6 a1 g v1_raws v1_kinds v1_figures v1_heavies v1_places v1_papers v1_lowers v1_uppers v1_rules v1_bounds v1_boundCount v1_tieWay v1_reached) H := hP
  have hD : va_D A (wX6 a0 g x1 x2 x3 x4 x5 v1_papers x6 v0_uppers v0_rules v0_bounds v0_boundCount v0_tieWay v0_reached ++ wX6 a1 g v1_raws v1_kinds v1_figures v1_heavies v1_places v1_papers v1_lowers v1_uppers v1_rules v1_bounds v1_boundCount v1_tieWay v1_reached) := hD
  refine lv_aload_n hx hb dX6_copyFrom_74 rfl (lv_at hl 0 rfl) ?_
  refine va_get (D := g.1) (ci := 7) (v := .ref (a0 13)) (C := RX6) (T := TX6) (N := 13) hx hb hts layX6 hown hK.1 hP 0 rfl rfl 7 (by decide) (hts _ kw56) (fun _ h9 => h9) rfl dX6_copyFrom_75 ?_
  refine lv_aload_n hx hb dX6_copyFrom_78 rfl (lv_at hl 1 rfl) ?_
  refine va_get (D := g.1) (ci := 7) (v := .ref (a1 13)) (C := RX6) (T := TX6) (N := 13) hx hb hts layX6 hown hK.1 hP 19 rfl rfl 7 (by decide) (hts _ kw56) (fun _ h9 => h9) rfl dX6_copyFrom_79 ?_
  refine cV hP hD hS hA hE (fun hPc hDc hSc => rV (As := [.ref (a1 13)]) (rest := []) hx hb hml hown hts hK (c_X2_copyFrom l g (fun i => a0 (i + 13)) 12 v0_uppers (fun i => a1 (i + 13)) 12 v1_uppers (bnd_ne hf)) svV_X2_copyFrom kw380 rfl rfl hPc hDc hSc rfl rfl hl.1 (Nat.le_of_ble_eq_true rfl) dX6_copyFrom_82 ⟨Nat.le_of_ble_eq_true rfl, Nat.le_of_ble_eq_true rfl, rfl, rfl, Nat.le_of_ble_eq_true rfl, Nat.le_of_ble_eq_true rfl⟩) [(13, 2), (32, 2)] rfl rfl rfl (fun _ => rfl) (fun x7 H locs ex7 hP hD hS => ?_)
  have hf := bnd_of hf ex7
  have hP : va_P g.1 vwCl (wX6 a0 g x1 x2 x3 x4 x5 v1_papers x6 x7 v0_rules v0_bounds v0_boundCount v0_tieWay v0_reached ++ wX6 a1 g v1_raws v1_kinds v1_figures v1_heavies v1_places v1_papers v1_lowers v1_uppers v1_rules v1_bounds v1_boundCount v1_tieWay v1_reached) H := hP
  have hD : va_D A (wX6 a0 g x1 x2 x3 x4 x5 v1_papers x6 x7 v0_rules v0_bounds v0_boundCount v0_tieWay v0_reached ++ wX6 a1 g v1_raws v1_kinds v1_figures v1_heavies v1_places v1_papers v1_lowers v1_uppers v1_rules v1_bounds v1_boundCount v1_tieWay v1_reached) := hD
  refine lv_aload_n hx hb dX6_copyFrom_85 rfl (lv_at hl 0 rfl) ?_
  refine lv_aload_n hx hb dX6_copyFrom_86 rfl (lv_at hl 1 rfl) ?_
  refine va_get (D := g.1) (ci := 7) (v := .int v1_rules) (C := RX6) (T := TX6) (N := 13) hx hb hts layX6 hown hK.1 hP 19 rfl rfl 8 (by decide) (hts _ kw57) (fun _ h9 => h9) rfl dX6_copyFrom_87 ?_
  refine va_put (D := g.1) (ci := 7) (v := .int v1_rules) (ty := .int) (C := RX6) (T := TX6) (N := 13) hx hb hts layX6 tyX6 tyX6_ok nmX6 hown hK.1 hP hD hS 0 rfl rfl 8 (by decide) (hts _ kw57) (fun _ h9 => h9) rfl (tyX6_ok 8 (by decide)) rfl rfl (Nat.le_of_ble_eq_true rfl) dX6_copyFrom_90 (fun H locs hP hD hS => ?_)
  have hP : va_P g.1 vwCl (wX6 a0 g x1 x2 x3 x4 x5 v1_papers x6 x7 v1_rules v0_bounds v0_boundCount v0_tieWay v0_reached ++ wX6 a1 g v1_raws v1_kinds v1_figures v1_heavies v1_places v1_papers v1_lowers v1_uppers v1_rules v1_bounds v1_boundCount v1_tieWay v1_reached) H := hP
  have hD : va_D A (wX6 a0 g x1 x2 x3 x4 x5 v1_papers x6 x7 v1_rules v0_bounds v0_boundCount v0_tieWay v0_reached ++ wX6 a1 g v1_raws v1_kinds v1_figures v1_heavies v1_places v1_papers v1_lowers v1_uppers v1_rules v1_bounds v1_boundCount v1_tieWay v1_reached) := hD
  refine lv_aload_n hx hb dX6_copyFrom_93 rfl (lv_at hl 0 rfl) ?_
  refine va_get (D := g.1) (ci := 7) (v := .ref (a0 15)) (C := RX6) (T := TX6) (N := 13) hx hb hts layX6 hown hK.1 hP 0 rfl rfl 9 (by decide) (hts _ kw58) (fun _ h9 => h9) rfl dX6_copyFrom_94 ?_
  refine lv_aload_n hx hb dX6_copyFrom_97 rfl (lv_at hl 1 rfl) ?_
  refine va_get (D := g.1) (ci := 7) (v := .ref (a1 15)) (C := RX6) (T := TX6) (N := 13) hx hb hts layX6 hown hK.1 hP 19 rfl rfl 9 (by decide) (hts _ kw58) (fun _ h9 => h9) rfl dX6_copyFrom_98 ?_
  refine cV hP hD hS hA hE (fun hPc hDc hSc => rV (As := [.ref (a1 15)]) (rest := []) hx hb hml hown hts hK (c_X2_copyFrom l g (fun i => a0 (i + 15)) 5 v0_bounds (fun i => a1 (i + 15)) 5 v1_bounds (bnd_ne hf)) svV_X2_copyFrom kw380 rfl rfl hPc hDc hSc rfl rfl hl.1 (Nat.le_of_ble_eq_true rfl) dX6_copyFrom_101 ⟨Nat.le_of_ble_eq_true rfl, Nat.le_of_ble_eq_true rfl, rfl, rfl, Nat.le_of_ble_eq_true rfl, Nat.le_of_ble_eq_true rfl⟩) [(15, 2), (34, 2)] rfl rfl rfl (fun _ => rfl) (fun x8 H locs ex8 hP hD hS => ?_)
  have hf := bnd_of hf ex8
  have hP : va_P g.1 vwCl (wX6 a0 g x1 x2 x3 x4 x5 v1_papers x6 x7 v1_rules x8 v0_boundCount v0_tieWay v0_reached ++ wX6 a1 g v1_raws v1_kinds v1_figures v1_heavies v1_places v1_papers v1_lowers v1_uppers v1_rules v1_bounds v1_boundCount v1_tieWay v1_reached) H := hP
  have hD : va_D A (wX6 a0 g x1 x2 x3 x4 x5 v1_papers x6 x7 v1_rules x8 v0_boundCount v0_tieWay v0_reached ++ wX6 a1 g v1_raws v1_kinds v1_figures v1_heavies v1_places v1_papers v1_lowers v1_uppers v1_rules v1_bounds v1_boundCount v1_tieWay v1_reached) := hD
  refine lv_aload_n hx hb dX6_copyFrom_104 rfl (lv_at hl 0 rfl) ?_
  refine lv_aload_n hx hb dX6_copyFrom_105 rfl (lv_at hl 1 rfl) ?_
  refine va_get (D := g.1) (ci := 7) (v := .int v1_boundCount) (C := RX6) (T := TX6) (N := 13) hx hb hts layX6 hown hK.1 hP 19 rfl rfl 10 (by decide) (hts _ kw59) (fun _ h9 => h9) rfl dX6_copyFrom_106 ?_
  refine va_put (D := g.1) (ci := 7) (v := .int v1_boundCount) (ty := .int) (C := RX6) (T := TX6) (N := 13) hx hb hts layX6 tyX6 tyX6_ok nmX6 hown hK.1 hP hD hS 0 rfl rfl 10 (by decide) (hts _ kw59) (fun _ h9 => h9) rfl (tyX6_ok 10 (by decide)) rfl rfl (Nat.le_of_ble_eq_true rfl) dX6_copyFrom_109 (fun H locs hP hD hS => ?_)
  have hP : va_P g.1 vwCl (wX6 a0 g x1 x2 x3 x4 x5 v1_papers x6 x7 v1_rules x8 v1_boundCount v0_tieWay v0_reached ++ wX6 a1 g v1_raws v1_kinds v1_figures v1_heavies v1_places v1_papers v1_lowers v1_uppers v1_rules v1_bounds v1_boundCount v1_tieWay v1_reached) H := hP
  have hD : va_D A (wX6 a0 g x1 x2 x3 x4 x5 v1_papers x6 x7 v1_rules x8 v1_boundCount v0_tieWay v0_reached ++ wX6 a1 g v1_raws v1_kinds v1_figures v1_heavies v1_places v1_papers v1_lowers v1_uppers v1_rules v1_bounds v1_boundCount v1_tieWay v1_reached) := hD
  refine lv_aload_n hx hb dX6_copyFrom_112 rfl (lv_at hl 0 rfl) ?_
  refine lv_aload_n hx hb dX6_copyFrom_113 rfl (lv_at hl 1 rfl) ?_
  refine va_get (D := g.1) (ci := 7) (v := .int v1_tieWay) (C := RX6) (T := TX6) (N := 13) hx hb hts layX6 hown hK.1 hP 19 rfl rfl 11 (by decide) (hts _ kw60) (fun _ h9 => h9) rfl dX6_copyFrom_114 ?_
  refine va_put (D := g.1) (ci := 7) (v := .int v1_tieWay) (ty := .int) (C := RX6) (T := TX6) (N := 13) hx hb hts layX6 tyX6 tyX6_ok nmX6 hown hK.1 hP hD hS 0 rfl rfl 11 (by decide) (hts _ kw60) (fun _ h9 => h9) rfl (tyX6_ok 11 (by decide)) rfl rfl (Nat.le_of_ble_eq_true rfl) dX6_copyFrom_117 (fun H locs hP hD hS => ?_)
  have hP : va_P g.1 vwCl (wX6 a0 g x1 x2 x3 x4 x5 v1_papers x6 x7 v1_rules x8 v1_boundCount v1_tieWay v0_reached ++ wX6 a1 g v1_raws v1_kinds v1_figures v1_heavies v1_places v1_papers v1_lowers v1_uppers v1_rules v1_bounds v1_boundCount v1_tieWay v1_reached) H := hP
  have hD : va_D A (wX6 a0 g x1 x2 x3 x4 x5 v1_papers x6 x7 v1_rules x8 v1_boundCount v1_tieWay v0_reached ++ wX6 a1 g v1_raws v1_kinds v1_figures v1_heavies v1_places v1_papers v1_lowers v1_uppers v1_rules v1_bounds v1_boundCount v1_tieWay v1_reached) := hD
  exact retV (u := (x1, x2, x3, x4, x5, v1_papers, x6, x7, v1_rules, x8, v1_boundCount, v1_tieWay)) (W1 := fun u => wX6 a0 g u.1 u.2.1 u.2.2.1 u.2.2.2.1 u.2.2.2.2.1 u.2.2.2.2.2.1 u.2.2.2.2.2.2.1 u.2.2.2.2.2.2.2.1 u.2.2.2.2.2.2.2.2.1 u.2.2.2.2.2.2.2.2.2.1 u.2.2.2.2.2.2.2.2.2.2.1 u.2.2.2.2.2.2.2.2.2.2.2 v0_reached ++ wX6 a1 g v1_raws v1_kinds v1_figures v1_heavies v1_places v1_papers v1_lowers v1_uppers v1_rules v1_bounds v1_boundCount v1_tieWay v1_reached) hx hb hr hlocks hS hP hD (hf0.trans hf.symm) dX6_copyFrom_120
set_option maxHeartbeats 4000000 in
set_option maxRecDepth 100000 in
theorem c_X6_paperCount (l : Launch) (g : GG) (a0 : Nat → Nat) (v0_raws : (Nat → Int32)) (v0_kinds : (Nat → Int32)) (v0_figures : (Nat → Int32)) (v0_heavies : (Nat → Int32)) (v0_places : (Nat → Int32)) (v0_papers : Int32) (v0_lowers : (Nat → Int32)) (v0_uppers : (Nat → Int32)) (v0_rules : Int32) (v0_bounds : (Nat → Int32)) (v0_boundCount : Int32) (v0_tieWay : Int32) (v0_reached : (Nat → Int32)) (hne : (m_X6_paperCount (v0_raws, v0_kinds, v0_figures, v0_heavies, v0_places, v0_papers, v0_lowers, v0_uppers, v0_rules, v0_bounds, v0_boundCount, v0_tieWay, v0_reached)) ≠ none) : Ct l g yX6_paperCount cX6_paperCount 1 (some .int) ({ frames := 0, cells := 0, slots := 0, locals := 0 } : Room) [.ref (a0 0)] (wX6 a0 g v0_raws v0_kinds v0_figures v0_heavies v0_places v0_papers v0_lowers v0_uppers v0_rules v0_bounds v0_boundCount v0_tieWay v0_reached) (Qi g .int (m_X6_paperCount (v0_raws, v0_kinds, v0_figures, v0_heavies, v0_places, v0_papers, v0_lowers, v0_uppers, v0_rules, v0_bounds, v0_boundCount, v0_tieWay, v0_reached)) (fun u => u) (fun u => wX6 a0 g v0_raws v0_kinds v0_figures v0_heavies v0_places v0_papers v0_lowers v0_uppers v0_rules v0_bounds v0_boundCount v0_tieWay v0_reached)) 0 0 := by
  obtain ⟨out, hf⟩ := ne_ex hne
  have hf0 := hf
  refine Ct.of (own := RX6) (by decide +kernel) rfl (Nat.le_of_ble_eq_true rfl) ?_
  intro p e s m below meth c hx hb hr hml hown hts hlocks hin hK A H locs hA hP hD hS hE ls hl
  have hl : lv_has ls 1 [(0, .ref (a0 0))] := hl
  unfold m_X6_paperCount at hf
  refine lv_aload_n hx hb dX6_paperCount_0 rfl (lv_at hl 0 rfl) ?_
  refine va_get (D := g.1) (ci := 7) (v := .int v0_papers) (C := RX6) (T := TX6) (N := 13) hx hb hts layX6 hown hK.1 hP 0 rfl rfl 5 (by decide) (hts _ kw54) (fun _ h9 => h9) rfl dX6_paperCount_1 ?_
  exact retI (v := v0_papers) (u := v0_papers) (val := fun u => u) (W1 := fun u => wX6 a0 g v0_raws v0_kinds v0_figures v0_heavies v0_places v0_papers v0_lowers v0_uppers v0_rules v0_bounds v0_boundCount v0_tieWay v0_reached) hx hb hr hlocks hS hP hD (hf0.trans hf.symm) rfl rfl dX6_paperCount_4
set_option maxHeartbeats 4000000 in
set_option maxRecDepth 100000 in
theorem c_X6_ruleCount (l : Launch) (g : GG) (a0 : Nat → Nat) (v0_raws : (Nat → Int32)) (v0_kinds : (Nat → Int32)) (v0_figures : (Nat → Int32)) (v0_heavies : (Nat → Int32)) (v0_places : (Nat → Int32)) (v0_papers : Int32) (v0_lowers : (Nat → Int32)) (v0_uppers : (Nat → Int32)) (v0_rules : Int32) (v0_bounds : (Nat → Int32)) (v0_boundCount : Int32) (v0_tieWay : Int32) (v0_reached : (Nat → Int32)) (hne : (m_X6_ruleCount (v0_raws, v0_kinds, v0_figures, v0_heavies, v0_places, v0_papers, v0_lowers, v0_uppers, v0_rules, v0_bounds, v0_boundCount, v0_tieWay, v0_reached)) ≠ none) : Ct l g yX6_ruleCount cX6_ruleCount 1 (some .int) ({ frames := 0, cells := 0, slots := 0, locals := 0 } : Room) [.ref (a0 0)] (wX6 a0 g v0_raws v0_kinds v0_figures v0_heavies v0_places v0_papers v0_lowers v0_uppers v0_rules v0_bounds v0_boundCount v0_tieWay v0_reached) (Qi g .int (m_X6_ruleCount (v0_raws, v0_kinds, v0_figures, v0_heavies, v0_places, v0_papers, v0_lowers, v0_uppers, v0_rules, v0_bounds, v0_boundCount, v0_tieWay, v0_reached)) (fun u => u) (fun u => wX6 a0 g v0_raws v0_kinds v0_figures v0_heavies v0_places v0_papers v0_lowers v0_uppers v0_rules v0_bounds v0_boundCount v0_tieWay v0_reached)) 0 0 := by
  obtain ⟨out, hf⟩ := ne_ex hne
  have hf0 := hf
  refine Ct.of (own := RX6) (by decide +kernel) rfl (Nat.le_of_ble_eq_true rfl) ?_
  intro p e s m below meth c hx hb hr hml hown hts hlocks hin hK A H locs hA hP hD hS hE ls hl
  have hl : lv_has ls 1 [(0, .ref (a0 0))] := hl
  unfold m_X6_ruleCount at hf
  refine lv_aload_n hx hb dX6_ruleCount_0 rfl (lv_at hl 0 rfl) ?_
  refine va_get (D := g.1) (ci := 7) (v := .int v0_rules) (C := RX6) (T := TX6) (N := 13) hx hb hts layX6 hown hK.1 hP 0 rfl rfl 8 (by decide) (hts _ kw57) (fun _ h9 => h9) rfl dX6_ruleCount_1 ?_
  exact retI (v := v0_rules) (u := v0_rules) (val := fun u => u) (W1 := fun u => wX6 a0 g v0_raws v0_kinds v0_figures v0_heavies v0_places v0_papers v0_lowers v0_uppers v0_rules v0_bounds v0_boundCount v0_tieWay v0_reached) hx hb hr hlocks hS hP hD (hf0.trans hf.symm) rfl rfl dX6_ruleCount_4
set_option maxHeartbeats 4000000 in
set_option maxRecDepth 100000 in
theorem c_X6_limitCount (l : Launch) (g : GG) (a0 : Nat → Nat) (v0_raws : (Nat → Int32)) (v0_kinds : (Nat → Int32)) (v0_figures : (Nat → Int32)) (v0_heavies : (Nat → Int32)) (v0_places : (Nat → Int32)) (v0_papers : Int32) (v0_lowers : (Nat → Int32)) (v0_uppers : (Nat → Int32)) (v0_rules : Int32) (v0_bounds : (Nat → Int32)) (v0_boundCount : Int32) (v0_tieWay : Int32) (v0_reached : (Nat → Int32)) (hne : (m_X6_limitCount (v0_raws, v0_kinds, v0_figures, v0_heavies, v0_places, v0_papers, v0_lowers, v0_uppers, v0_rules, v0_bounds, v0_boundCount, v0_tieWay, v0_reached)) ≠ none) : Ct l g yX6_limitCount cX6_limitCount 1 (some .int) ({ frames := 0, cells := 0, slots := 0, locals := 0 } : Room) [.ref (a0 0)] (wX6 a0 g v0_raws v0_kinds v0_figures v0_heavies v0_places v0_papers v0_lowers v0_uppers v0_rules v0_bounds v0_boundCount v0_tieWay v0_reached) (Qi g .int (m_X6_limitCount (v0_raws, v0_kinds, v0_figures, v0_heavies, v0_places, v0_papers, v0_lowers, v0_uppers, v0_rules, v0_bounds, v0_boundCount, v0_tieWay, v0_reached)) (fun u => u) (fun u => wX6 a0 g v0_raws v0_kinds v0_figures v0_heavies v0_places v0_papers v0_lowers v0_uppers v0_rules v0_bounds v0_boundCount v0_tieWay v0_reached)) 0 0 := by
  obtain ⟨out, hf⟩ := ne_ex hne
  have hf0 := hf
  refine Ct.of (own := RX6) (by decide +kernel) rfl (Nat.le_of_ble_eq_true rfl) ?_
  intro p e s m below meth c hx hb hr hml hown hts hlocks hin hK A H locs hA hP hD hS hE ls hl
  have hl : lv_has ls 1 [(0, .ref (a0 0))] := hl
  unfold m_X6_limitCount at hf
  refine lv_aload_n hx hb dX6_limitCount_0 rfl (lv_at hl 0 rfl) ?_
  refine va_get (D := g.1) (ci := 7) (v := .int v0_boundCount) (C := RX6) (T := TX6) (N := 13) hx hb hts layX6 hown hK.1 hP 0 rfl rfl 10 (by decide) (hts _ kw59) (fun _ h9 => h9) rfl dX6_limitCount_1 ?_
  exact retI (v := v0_boundCount) (u := v0_boundCount) (val := fun u => u) (W1 := fun u => wX6 a0 g v0_raws v0_kinds v0_figures v0_heavies v0_places v0_papers v0_lowers v0_uppers v0_rules v0_bounds v0_boundCount v0_tieWay v0_reached) hx hb hr hlocks hS hP hD (hf0.trans hf.symm) rfl rfl dX6_limitCount_4
set_option maxHeartbeats 4000000 in
set_option maxRecDepth 100000 in
theorem c_X6_tiesNow (l : Launch) (g : GG) (a0 : Nat → Nat) (v0_raws : (Nat → Int32)) (v0_kinds : (Nat → Int32)) (v0_figures : (Nat → Int32)) (v0_heavies : (Nat → Int32)) (v0_places : (Nat → Int32)) (v0_papers : Int32) (v0_lowers : (Nat → Int32)) (v0_uppers : (Nat → Int32)) (v0_rules : Int32) (v0_bounds : (Nat → Int32)) (v0_boundCount : Int32) (v0_tieWay : Int32) (v0_reached : (Nat → Int32)) (hne : (m_X6_tiesNow (v0_raws, v0_kinds, v0_figures, v0_heavies, v0_places, v0_papers, v0_lowers, v0_uppers, v0_rules, v0_bounds, v0_boundCount, v0_tieWay, v0_reached)) ≠ none) : Ct l g yX6_tiesNow cX6_tiesNow 1 (some .int) ({ frames := 0, cells := 0, slots := 0, locals := 0 } : Room) [.ref (a0 0)] (wX6 a0 g v0_raws v0_kinds v0_figures v0_heavies v0_places v0_papers v0_lowers v0_uppers v0_rules v0_bounds v0_boundCount v0_tieWay v0_reached) (Qi g .int (m_X6_tiesNow (v0_raws, v0_kinds, v0_figures, v0_heavies, v0_places, v0_papers, v0_lowers, v0_uppers, v0_rules, v0_bounds, v0_boundCount, v0_tieWay, v0_reached)) (fun u => u) (fun u => wX6 a0 g v0_raws v0_kinds v0_figures v0_heavies v0_places v0_papers v0_lowers v0_uppers v0_rules v0_bounds v0_boundCount v0_tieWay v0_reached)) 0 0 := by
  obtain ⟨out, hf⟩ := ne_ex hne
  have hf0 := hf
  refine Ct.of (own := RX6) (by decide +kernel) rfl (Nat.le_of_ble_eq_true rfl) ?_
  intro p e s m below meth c hx hb hr hml hown hts hlocks hin hK A H locs hA hP hD hS hE ls hl
  have hl : lv_has ls 1 [(0, .ref (a0 0))] := hl
  unfold m_X6_tiesNow at hf
  refine lv_aload_n hx hb dX6_tiesNow_0 rfl (lv_at hl 0 rfl) ?_
  refine va_get (D := g.1) (ci := 7) (v := .int v0_tieWay) (C := RX6) (T := TX6) (N := 13) hx hb hts layX6 hown hK.1 hP 0 rfl rfl 11 (by decide) (hts _ kw60) (fun _ h9 => h9) rfl dX6_tiesNow_1 ?_
  exact retI (v := v0_tieWay) (u := v0_tieWay) (val := fun u => u) (W1 := fun u => wX6 a0 g v0_raws v0_kinds v0_figures v0_heavies v0_places v0_papers v0_lowers v0_uppers v0_rules v0_bounds v0_boundCount v0_tieWay v0_reached) hx hb hr hlocks hS hP hD (hf0.trans hf.symm) rfl rfl dX6_tiesNow_4
set_option maxHeartbeats 4000000 in
set_option maxRecDepth 100000 in
theorem c_X6_hasPaper (l : Launch) (g : GG) (a0 : Nat → Nat) (v0_raws : (Nat → Int32)) (v0_kinds : (Nat → Int32)) (v0_figures : (Nat → Int32)) (v0_heavies : (Nat → Int32)) (v0_places : (Nat → Int32)) (v0_papers : Int32) (v0_lowers : (Nat → Int32)) (v0_uppers : (Nat → Int32)) (v0_rules : Int32) (v0_bounds : (Nat → Int32)) (v0_boundCount : Int32) (v0_tieWay : Int32) (v0_reached : (Nat → Int32)) (p1 : Int32) (hne : (m_X6_hasPaper (v0_raws, v0_kinds, v0_figures, v0_heavies, v0_places, v0_papers, v0_lowers, v0_uppers, v0_rules, v0_bounds, v0_boundCount, v0_tieWay, v0_reached) p1) ≠ none) : Ct l g yX6_hasPaper cX6_hasPaper 2 (some .boolean) ({ frames := 0, cells := 0, slots := 0, locals := 0 } : Room) [.ref (a0 0), .int p1] (wX6 a0 g v0_raws v0_kinds v0_figures v0_heavies v0_places v0_papers v0_lowers v0_uppers v0_rules v0_bounds v0_boundCount v0_tieWay v0_reached) (Qi g .boolean (m_X6_hasPaper (v0_raws, v0_kinds, v0_figures, v0_heavies, v0_places, v0_papers, v0_lowers, v0_uppers, v0_rules, v0_bounds, v0_boundCount, v0_tieWay, v0_reached) p1) (fun u => u) (fun u => wX6 a0 g v0_raws v0_kinds v0_figures v0_heavies v0_places v0_papers v0_lowers v0_uppers v0_rules v0_bounds v0_boundCount v0_tieWay v0_reached)) 0 0 := by
  obtain ⟨out, hf⟩ := ne_ex hne
  have hf0 := hf
  refine Ct.of (own := RX6) (by decide +kernel) rfl (Nat.le_of_ble_eq_true rfl) ?_
  intro p e s m below meth c hx hb hr hml hown hts hlocks hin hK A H locs hA hP hD hS hE ls hl
  have hl : lv_has ls 2 [(0, .ref (a0 0)), (1, .int p1)] := hl
  unfold m_X6_hasPaper at hf
  refine lv_iload_n hx hb dX6_hasPaper_0 rfl (lv_at hl 1 rfl) ?_
  refine lv_if_lt (tgt := 16) hx hb dX6_hasPaper_1 (by decide) (fun cb => ?_) (fun cb => ?_)
  · have hf := it_t cb hf
    refine lv_iconst (v := 0) hx hb dX6_hasPaper_16 (by decide) ?_
    exact retI (v := (0 : Int32)) (u := (0 : Int32)) (val := fun u => u) (W1 := fun u => wX6 a0 g v0_raws v0_kinds v0_figures v0_heavies v0_places v0_papers v0_lowers v0_uppers v0_rules v0_bounds v0_boundCount v0_tieWay v0_reached) hx hb hr hlocks hS hP hD (hf0.trans hf.symm) rfl rfl dX6_hasPaper_17
  have hf := it_f cb hf
  refine lv_iload_n hx hb dX6_hasPaper_4 rfl (lv_at hl 1 rfl) ?_
  refine lv_aload_n hx hb dX6_hasPaper_5 rfl (lv_at hl 0 rfl) ?_
  refine va_get (D := g.1) (ci := 7) (v := .int v0_papers) (C := RX6) (T := TX6) (N := 13) hx hb hts layX6 hown hK.1 hP 0 rfl rfl 5 (by decide) (hts _ kw54) (fun _ h9 => h9) rfl dX6_hasPaper_6 ?_
  refine lv_icmp_ge (tgt := 16) hx hb dX6_hasPaper_9 (by decide) (fun cb => ?_) (fun cb => ?_)
  · have hf := it_t cb hf
    refine lv_iconst (v := 0) hx hb dX6_hasPaper_16 (by decide) ?_
    exact retI (v := (0 : Int32)) (u := (0 : Int32)) (val := fun u => u) (W1 := fun u => wX6 a0 g v0_raws v0_kinds v0_figures v0_heavies v0_places v0_papers v0_lowers v0_uppers v0_rules v0_bounds v0_boundCount v0_tieWay v0_reached) hx hb hr hlocks hS hP hD (hf0.trans hf.symm) rfl rfl dX6_hasPaper_17
  have hf := it_f cb hf
  refine lv_iconst (v := 1) hx hb dX6_hasPaper_12 (by decide) ?_
  refine lv_goto (tgt := 17) hx hb dX6_hasPaper_13 (by decide) ?_
  exact retI (v := (1 : Int32)) (u := (1 : Int32)) (val := fun u => u) (W1 := fun u => wX6 a0 g v0_raws v0_kinds v0_figures v0_heavies v0_places v0_papers v0_lowers v0_uppers v0_rules v0_bounds v0_boundCount v0_tieWay v0_reached) hx hb hr hlocks hS hP hD (hf0.trans hf.symm) rfl rfl dX6_hasPaper_17
set_option maxHeartbeats 4000000 in
set_option maxRecDepth 100000 in
theorem c_X6_areTwo (l : Launch) (g : GG) (a0 : Nat → Nat) (v0_raws : (Nat → Int32)) (v0_kinds : (Nat → Int32)) (v0_figures : (Nat → Int32)) (v0_heavies : (Nat → Int32)) (v0_places : (Nat → Int32)) (v0_papers : Int32) (v0_lowers : (Nat → Int32)) (v0_uppers : (Nat → Int32)) (v0_rules : Int32) (v0_bounds : (Nat → Int32)) (v0_boundCount : Int32) (v0_tieWay : Int32) (v0_reached : (Nat → Int32)) (p1 : Int32) (p2 : Int32) (hne : (m_X6_areTwo (v0_raws, v0_kinds, v0_figures, v0_heavies, v0_places, v0_papers, v0_lowers, v0_uppers, v0_rules, v0_bounds, v0_boundCount, v0_tieWay, v0_reached) p1 p2) ≠ none) : Ct l g yX6_areTwo cX6_areTwo 3 (some .boolean) ({ frames := 1, cells := 0, slots := 0, locals := 21 } : Room) [.ref (a0 0), .int p1, .int p2] (wX6 a0 g v0_raws v0_kinds v0_figures v0_heavies v0_places v0_papers v0_lowers v0_uppers v0_rules v0_bounds v0_boundCount v0_tieWay v0_reached) (Qi g .boolean (m_X6_areTwo (v0_raws, v0_kinds, v0_figures, v0_heavies, v0_places, v0_papers, v0_lowers, v0_uppers, v0_rules, v0_bounds, v0_boundCount, v0_tieWay, v0_reached) p1 p2) (fun u => u) (fun u => wX6 a0 g v0_raws v0_kinds v0_figures v0_heavies v0_places v0_papers v0_lowers v0_uppers v0_rules v0_bounds v0_boundCount v0_tieWay v0_reached)) 0 0 := by
  obtain ⟨out, hf⟩ := ne_ex hne
  have hf0 := hf
  refine Ct.of (own := RX6) (by decide +kernel) rfl (Nat.le_of_ble_eq_true rfl) ?_
  intro p e s m below meth c hx hb hr hml hown hts hlocks hin hK A H locs hA hP hD hS hE ls hl
  have hl : lv_has ls 3 [(0, .ref (a0 0)), (1, .int p1), (2, .int p2)] := hl
  unfold m_X6_areTwo at hf
  refine lv_aload_n hx hb dX6_areTwo_0 rfl (lv_at hl 0 rfl) ?_
  refine lv_iload_n hx hb dX6_areTwo_1 rfl (lv_at hl 1 rfl) ?_
  refine cIp hP hD hS hA hE (fun hPc hDc hSc => rV (As := [.int p1]) (rest := []) hx hb hml hown hts hK (c_X6_hasPaper l g a0 v0_raws v0_kinds v0_figures v0_heavies v0_places v0_papers v0_lowers v0_uppers v0_rules v0_bounds v0_boundCount v0_tieWay v0_reached p1 (bnd_ne hf)) svV_X6_hasPaper kw413 rfl rfl hPc hDc hSc rfl rfl hl.1 (Nat.le_of_ble_eq_true rfl) dX6_areTwo_2 ⟨Nat.le_of_ble_eq_true rfl, Nat.le_of_ble_eq_true rfl, rfl, rfl, Nat.le_of_ble_eq_true rfl, Nat.le_of_ble_eq_true rfl⟩) [(0, 19)] rfl rfl rfl (fun x1 H locs ex1 nx1 hP hS => ?_)
  have hf := bnd_of hf ex1
  refine lv_if_eq (tgt := 25) hx hb dX6_areTwo_5 (by decide) (fun cb => ?_) (fun cb => ?_)
  · have hf := it_t cb hf
    refine lv_iconst (v := 0) hx hb dX6_areTwo_25 (by decide) ?_
    exact retI (v := (0 : Int32)) (u := (0 : Int32)) (val := fun u => u) (W1 := fun u => wX6 a0 g v0_raws v0_kinds v0_figures v0_heavies v0_places v0_papers v0_lowers v0_uppers v0_rules v0_bounds v0_boundCount v0_tieWay v0_reached) hx hb hr hlocks hS hP hD (hf0.trans hf.symm) rfl rfl dX6_areTwo_26
  have hf := it_f cb hf
  refine lv_aload_n hx hb dX6_areTwo_8 rfl (lv_at hl 0 rfl) ?_
  refine lv_iload_n hx hb dX6_areTwo_9 rfl (lv_at hl 2 rfl) ?_
  refine cIp hP hD hS hA hE (fun hPc hDc hSc => rV (As := [.int p2]) (rest := []) hx hb hml hown hts hK (c_X6_hasPaper l g a0 v0_raws v0_kinds v0_figures v0_heavies v0_places v0_papers v0_lowers v0_uppers v0_rules v0_bounds v0_boundCount v0_tieWay v0_reached p2 (bnd_ne hf)) svV_X6_hasPaper kw413 rfl rfl hPc hDc hSc rfl rfl hl.1 (Nat.le_of_ble_eq_true rfl) dX6_areTwo_10 ⟨Nat.le_of_ble_eq_true rfl, Nat.le_of_ble_eq_true rfl, rfl, rfl, Nat.le_of_ble_eq_true rfl, Nat.le_of_ble_eq_true rfl⟩) [(0, 19)] rfl rfl rfl (fun x2 H locs ex2 nx2 hP hS => ?_)
  have hf := bnd_of hf ex2
  refine lv_if_eq (tgt := 25) hx hb dX6_areTwo_13 (by decide) (fun cb => ?_) (fun cb => ?_)
  · have hf := it_t cb hf
    refine lv_iconst (v := 0) hx hb dX6_areTwo_25 (by decide) ?_
    exact retI (v := (0 : Int32)) (u := (0 : Int32)) (val := fun u => u) (W1 := fun u => wX6 a0 g v0_raws v0_kinds v0_figures v0_heavies v0_places v0_papers v0_lowers v0_uppers v0_rules v0_bounds v0_boundCount v0_tieWay v0_reached) hx hb hr hlocks hS hP hD (hf0.trans hf.symm) rfl rfl dX6_areTwo_26
  have hf := it_f cb hf
  refine lv_iload_n hx hb dX6_areTwo_16 rfl (lv_at hl 1 rfl) ?_
  refine lv_iload_n hx hb dX6_areTwo_17 rfl (lv_at hl 2 rfl) ?_
  refine lv_icmp_eq (tgt := 25) hx hb dX6_areTwo_18 (by decide) (fun cb => ?_) (fun cb => ?_)
  · have hf := it_t cb hf
    refine lv_iconst (v := 0) hx hb dX6_areTwo_25 (by decide) ?_
    exact retI (v := (0 : Int32)) (u := (0 : Int32)) (val := fun u => u) (W1 := fun u => wX6 a0 g v0_raws v0_kinds v0_figures v0_heavies v0_places v0_papers v0_lowers v0_uppers v0_rules v0_bounds v0_boundCount v0_tieWay v0_reached) hx hb hr hlocks hS hP hD (hf0.trans hf.symm) rfl rfl dX6_areTwo_26
  have hf := it_f cb hf
  refine lv_iconst (v := 1) hx hb dX6_areTwo_21 (by decide) ?_
  refine lv_goto (tgt := 26) hx hb dX6_areTwo_22 (by decide) ?_
  exact retI (v := (1 : Int32)) (u := (1 : Int32)) (val := fun u => u) (W1 := fun u => wX6 a0 g v0_raws v0_kinds v0_figures v0_heavies v0_places v0_papers v0_lowers v0_uppers v0_rules v0_bounds v0_boundCount v0_tieWay v0_reached) hx hb hr hlocks hS hP hD (hf0.trans hf.symm) rfl rfl dX6_areTwo_26
