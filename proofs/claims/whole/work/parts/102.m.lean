theorem svV_X6_swap : SV RX6 yX6_swap cX6_swap 7 (some .int) 5 := ⟨kw423, kw1794, kw2, kw424, rfl, by decide, by decide, by decide +kernel⟩
theorem dX6_addPaper_0 : decode cX6_addPaper 0 = .ok (.iload_n 1, 1) := by decide +kernel
theorem dX6_addPaper_1 : decode cX6_addPaper 1 = .ok (.ifCond .ge 6, 3) := by decide +kernel
theorem dX6_addPaper_7 : decode cX6_addPaper 7 = .ok (.iload_n 1, 1) := by decide +kernel
theorem dX6_addPaper_8 : decode cX6_addPaper 8 = .ok (.bipush 99, 2) := by decide +kernel
theorem dX6_addPaper_10 : decode cX6_addPaper 10 = .ok (.if_icmp .gt 12, 3) := by decide +kernel
theorem dX6_addPaper_22 : decode cX6_addPaper 22 = .ok (.bipush (-6), 2) := by decide +kernel
theorem dX6_addPaper_24 : decode cX6_addPaper 24 = .ok (.ireturn, 1) := by decide +kernel
theorem dX6_addPaper_13 : decode cX6_addPaper 13 = .ok (.aload_n 0, 1) := by decide +kernel
theorem dX6_addPaper_14 : decode cX6_addPaper 14 = .ok (.getfield 48, 3) := by decide +kernel
theorem dX6_addPaper_17 : decode cX6_addPaper 17 = .ok (.bipush 7, 2) := by decide +kernel
theorem dX6_addPaper_19 : decode cX6_addPaper 19 = .ok (.if_icmp .lt 6, 3) := by decide +kernel
theorem dX6_addPaper_25 : decode cX6_addPaper 25 = .ok (.aload_n 0, 1) := by decide +kernel
theorem dX6_addPaper_26 : decode cX6_addPaper 26 = .ok (.getfield 14, 3) := by decide +kernel
theorem dX6_addPaper_29 : decode cX6_addPaper 29 = .ok (.aload_n 0, 1) := by decide +kernel
theorem dX6_addPaper_30 : decode cX6_addPaper 30 = .ok (.getfield 48, 3) := by decide +kernel
theorem dX6_addPaper_33 : decode cX6_addPaper 33 = .ok (.iload_n 1, 1) := by decide +kernel
theorem dX6_addPaper_34 : decode cX6_addPaper 34 = .ok (.invokevirtual 91, 3) := by decide +kernel
theorem dX6_addPaper_37 : decode cX6_addPaper 37 = .ok (.aload_n 0, 1) := by decide +kernel
theorem dX6_addPaper_38 : decode cX6_addPaper 38 = .ok (.getfield 20, 3) := by decide +kernel
theorem dX6_addPaper_41 : decode cX6_addPaper 41 = .ok (.aload_n 0, 1) := by decide +kernel
theorem dX6_addPaper_42 : decode cX6_addPaper 42 = .ok (.getfield 48, 3) := by decide +kernel
theorem dX6_addPaper_45 : decode cX6_addPaper 45 = .ok (.iconst 0, 1) := by decide +kernel
theorem dX6_addPaper_46 : decode cX6_addPaper 46 = .ok (.invokevirtual 91, 3) := by decide +kernel
theorem dX6_addPaper_49 : decode cX6_addPaper 49 = .ok (.aload_n 0, 1) := by decide +kernel
theorem dX6_addPaper_50 : decode cX6_addPaper 50 = .ok (.getfield 23, 3) := by decide +kernel
theorem dX6_addPaper_53 : decode cX6_addPaper 53 = .ok (.aload_n 0, 1) := by decide +kernel
theorem dX6_addPaper_54 : decode cX6_addPaper 54 = .ok (.getfield 48, 3) := by decide +kernel
theorem dX6_addPaper_57 : decode cX6_addPaper 57 = .ok (.iconst 0, 1) := by decide +kernel
theorem dX6_addPaper_58 : decode cX6_addPaper 58 = .ok (.invokevirtual 91, 3) := by decide +kernel
theorem dX6_addPaper_61 : decode cX6_addPaper 61 = .ok (.aload_n 0, 1) := by decide +kernel
theorem dX6_addPaper_62 : decode cX6_addPaper 62 = .ok (.getfield 26, 3) := by decide +kernel
theorem dX6_addPaper_65 : decode cX6_addPaper 65 = .ok (.aload_n 0, 1) := by decide +kernel
theorem dX6_addPaper_66 : decode cX6_addPaper 66 = .ok (.getfield 48, 3) := by decide +kernel
theorem dX6_addPaper_69 : decode cX6_addPaper 69 = .ok (.iconst 1, 1) := by decide +kernel
theorem dX6_addPaper_70 : decode cX6_addPaper 70 = .ok (.invokevirtual 91, 3) := by decide +kernel
theorem dX6_addPaper_73 : decode cX6_addPaper 73 = .ok (.aload_n 0, 1) := by decide +kernel
theorem dX6_addPaper_74 : decode cX6_addPaper 74 = .ok (.getfield 29, 3) := by decide +kernel
theorem dX6_addPaper_77 : decode cX6_addPaper 77 = .ok (.aload_n 0, 1) := by decide +kernel
theorem dX6_addPaper_78 : decode cX6_addPaper 78 = .ok (.getfield 48, 3) := by decide +kernel
theorem dX6_addPaper_81 : decode cX6_addPaper 81 = .ok (.aload_n 0, 1) := by decide +kernel
theorem dX6_addPaper_82 : decode cX6_addPaper 82 = .ok (.getfield 48, 3) := by decide +kernel
theorem dX6_addPaper_85 : decode cX6_addPaper 85 = .ok (.invokevirtual 91, 3) := by decide +kernel
theorem dX6_addPaper_88 : decode cX6_addPaper 88 = .ok (.aload_n 0, 1) := by decide +kernel
theorem dX6_addPaper_89 : decode cX6_addPaper 89 = .ok (.dup, 1) := by decide +kernel
theorem dX6_addPaper_90 : decode cX6_addPaper 90 = .ok (.getfield 48, 3) := by decide +kernel
theorem dX6_addPaper_93 : decode cX6_addPaper 93 = .ok (.iconst 1, 1) := by decide +kernel
theorem dX6_addPaper_94 : decode cX6_addPaper 94 = .ok (.iadd, 1) := by decide +kernel
theorem dX6_addPaper_95 : decode cX6_addPaper 95 = .ok (.putfield 48, 3) := by decide +kernel
theorem dX6_addPaper_98 : decode cX6_addPaper 98 = .ok (.aload_n 0, 1) := by decide +kernel
theorem dX6_addPaper_99 : decode cX6_addPaper 99 = .ok (.getfield 48, 3) := by decide +kernel
theorem dX6_addPaper_102 : decode cX6_addPaper 102 = .ok (.iconst 1, 1) := by decide +kernel
theorem dX6_addPaper_103 : decode cX6_addPaper 103 = .ok (.isub, 1) := by decide +kernel
theorem dX6_addPaper_104 : decode cX6_addPaper 104 = .ok (.ireturn, 1) := by decide +kernel
theorem dX6_addPaper_4 : decode cX6_addPaper 4 = .ok (.bipush (-4), 2) := by decide +kernel
theorem dX6_addPaper_6 : decode cX6_addPaper 6 = .ok (.ireturn, 1) := by decide +kernel
theorem dX6_setKind_0 : decode cX6_setKind 0 = .ok (.aload_n 0, 1) := by decide +kernel
theorem dX6_setKind_1 : decode cX6_setKind 1 = .ok (.iload_n 1, 1) := by decide +kernel
theorem dX6_setKind_2 : decode cX6_setKind 2 = .ok (.invokevirtual 61, 3) := by decide +kernel
theorem dX6_setKind_5 : decode cX6_setKind 5 = .ok (.ifCond .ne 5, 3) := by decide +kernel
theorem dX6_setKind_10 : decode cX6_setKind 10 = .ok (.iload_n 2, 1) := by decide +kernel
theorem dX6_setKind_11 : decode cX6_setKind 11 = .ok (.ifCond .lt 8, 3) := by decide +kernel
theorem dX6_setKind_19 : decode cX6_setKind 19 = .ok (.bipush (-2), 2) := by decide +kernel
theorem dX6_setKind_21 : decode cX6_setKind 21 = .ok (.ireturn, 1) := by decide +kernel
theorem dX6_setKind_14 : decode cX6_setKind 14 = .ok (.iload_n 2, 1) := by decide +kernel
theorem dX6_setKind_15 : decode cX6_setKind 15 = .ok (.iconst 5, 1) := by decide +kernel
theorem dX6_setKind_16 : decode cX6_setKind 16 = .ok (.if_icmp .le 6, 3) := by decide +kernel
theorem dX6_setKind_22 : decode cX6_setKind 22 = .ok (.iload_n 3, 1) := by decide +kernel
theorem dX6_setKind_23 : decode cX6_setKind 23 = .ok (.ifCond .ge 6, 3) := by decide +kernel
theorem dX6_setKind_29 : decode cX6_setKind 29 = .ok (.iload_n 3, 1) := by decide +kernel
theorem dX6_setKind_30 : decode cX6_setKind 30 = .ok (.bipush 9, 2) := by decide +kernel
theorem dX6_setKind_32 : decode cX6_setKind 32 = .ok (.if_icmp .le 6, 3) := by decide +kernel
theorem dX6_setKind_38 : decode cX6_setKind 38 = .ok (.bipush 10, 2) := by decide +kernel
theorem dX6_setKind_40 : decode cX6_setKind 40 = .ok (.aload_n 0, 1) := by decide +kernel
theorem dX6_setKind_41 : decode cX6_setKind 41 = .ok (.getfield 20, 3) := by decide +kernel
theorem dX6_setKind_44 : decode cX6_setKind 44 = .ok (.iload_n 1, 1) := by decide +kernel
theorem dX6_setKind_45 : decode cX6_setKind 45 = .ok (.invokevirtual 65, 3) := by decide +kernel
theorem dX6_setKind_48 : decode cX6_setKind 48 = .ok (.imul, 1) := by decide +kernel
theorem dX6_setKind_49 : decode cX6_setKind 49 = .ok (.aload_n 0, 1) := by decide +kernel
theorem dX6_setKind_50 : decode cX6_setKind 50 = .ok (.getfield 23, 3) := by decide +kernel
theorem dX6_setKind_53 : decode cX6_setKind 53 = .ok (.iload_n 1, 1) := by decide +kernel
theorem dX6_setKind_54 : decode cX6_setKind 54 = .ok (.invokevirtual 65, 3) := by decide +kernel
theorem dX6_setKind_57 : decode cX6_setKind 57 = .ok (.iadd, 1) := by decide +kernel
theorem dX6_setKind_58 : decode cX6_setKind 58 = .ok (.istore 4, 2) := by decide +kernel
theorem dX6_setKind_60 : decode cX6_setKind 60 = .ok (.aload_n 0, 1) := by decide +kernel
theorem dX6_setKind_61 : decode cX6_setKind 61 = .ok (.getfield 20, 3) := by decide +kernel
theorem dX6_setKind_64 : decode cX6_setKind 64 = .ok (.iload_n 1, 1) := by decide +kernel
theorem dX6_setKind_65 : decode cX6_setKind 65 = .ok (.iload_n 2, 1) := by decide +kernel
theorem dX6_setKind_66 : decode cX6_setKind 66 = .ok (.invokevirtual 91, 3) := by decide +kernel
theorem dX6_setKind_69 : decode cX6_setKind 69 = .ok (.aload_n 0, 1) := by decide +kernel
theorem dX6_setKind_70 : decode cX6_setKind 70 = .ok (.getfield 23, 3) := by decide +kernel
theorem dX6_setKind_73 : decode cX6_setKind 73 = .ok (.iload_n 1, 1) := by decide +kernel
theorem dX6_setKind_74 : decode cX6_setKind 74 = .ok (.iload_n 3, 1) := by decide +kernel
theorem dX6_setKind_75 : decode cX6_setKind 75 = .ok (.invokevirtual 91, 3) := by decide +kernel
theorem dX6_setKind_78 : decode cX6_setKind 78 = .ok (.iload 4, 2) := by decide +kernel
theorem dX6_setKind_80 : decode cX6_setKind 80 = .ok (.ireturn, 1) := by decide +kernel
theorem dX6_setKind_35 : decode cX6_setKind 35 = .ok (.bipush (-6), 2) := by decide +kernel
theorem dX6_setKind_37 : decode cX6_setKind 37 = .ok (.ireturn, 1) := by decide +kernel
theorem dX6_setKind_26 : decode cX6_setKind 26 = .ok (.bipush (-4), 2) := by decide +kernel
theorem dX6_setKind_28 : decode cX6_setKind 28 = .ok (.ireturn, 1) := by decide +kernel
theorem dX6_setKind_8 : decode cX6_setKind 8 = .ok (.iconst (-1), 1) := by decide +kernel
theorem dX6_setKind_9 : decode cX6_setKind 9 = .ok (.ireturn, 1) := by decide +kernel
theorem dX6_swap_0 : decode cX6_swap 0 = .ok (.aload_n 0, 1) := by decide +kernel
theorem dX6_swap_1 : decode cX6_swap 1 = .ok (.iload_n 2, 1) := by decide +kernel
theorem dX6_swap_2 : decode cX6_swap 2 = .ok (.invokevirtual 61, 3) := by decide +kernel
theorem dX6_swap_5 : decode cX6_swap 5 = .ok (.ifCond .ne 5, 3) := by decide +kernel
theorem dX6_swap_10 : decode cX6_swap 10 = .ok (.iload_n 3, 1) := by decide +kernel
theorem dX6_swap_11 : decode cX6_swap 11 = .ok (.iload 4, 2) := by decide +kernel
theorem dX6_swap_13 : decode cX6_swap 13 = .ok (.if_icmp .ge 6, 3) := by decide +kernel
theorem dX6_swap_19 : decode cX6_swap 19 = .ok (.iload_n 3, 1) := by decide +kernel
theorem dX6_swap_20 : decode cX6_swap 20 = .ok (.iload 5, 2) := by decide +kernel
theorem dX6_swap_22 : decode cX6_swap 22 = .ok (.if_icmp .le 6, 3) := by decide +kernel
theorem dX6_swap_28 : decode cX6_swap 28 = .ok (.aload_n 1, 1) := by decide +kernel
theorem dX6_swap_29 : decode cX6_swap 29 = .ok (.iload_n 2, 1) := by decide +kernel
theorem dX6_swap_30 : decode cX6_swap 30 = .ok (.invokevirtual 65, 3) := by decide +kernel
theorem dX6_swap_33 : decode cX6_swap 33 = .ok (.istore 6, 2) := by decide +kernel
theorem dX6_swap_35 : decode cX6_swap 35 = .ok (.aload_n 1, 1) := by decide +kernel
theorem dX6_swap_36 : decode cX6_swap 36 = .ok (.iload_n 2, 1) := by decide +kernel
theorem dX6_swap_37 : decode cX6_swap 37 = .ok (.iload_n 3, 1) := by decide +kernel
theorem dX6_swap_38 : decode cX6_swap 38 = .ok (.invokevirtual 91, 3) := by decide +kernel
theorem dX6_swap_41 : decode cX6_swap 41 = .ok (.iload 6, 2) := by decide +kernel
theorem dX6_swap_43 : decode cX6_swap 43 = .ok (.ireturn, 1) := by decide +kernel
theorem dX6_swap_25 : decode cX6_swap 25 = .ok (.bipush (-6), 2) := by decide +kernel
theorem dX6_swap_27 : decode cX6_swap 27 = .ok (.ireturn, 1) := by decide +kernel
theorem dX6_swap_16 : decode cX6_swap 16 = .ok (.bipush (-4), 2) := by decide +kernel
theorem dX6_swap_18 : decode cX6_swap 18 = .ok (.ireturn, 1) := by decide +kernel
theorem dX6_swap_8 : decode cX6_swap 8 = .ok (.iconst (-1), 1) := by decide +kernel
theorem dX6_swap_9 : decode cX6_swap 9 = .ok (.ireturn, 1) := by decide +kernel
theorem dX6_setRaw_0 : decode cX6_setRaw 0 = .ok (.aload_n 0, 1) := by decide +kernel
theorem dX6_setRaw_1 : decode cX6_setRaw 1 = .ok (.aload_n 0, 1) := by decide +kernel
theorem dX6_setRaw_2 : decode cX6_setRaw 2 = .ok (.getfield 14, 3) := by decide +kernel
theorem dX6_setRaw_5 : decode cX6_setRaw 5 = .ok (.iload_n 1, 1) := by decide +kernel
theorem dX6_setRaw_6 : decode cX6_setRaw 6 = .ok (.iload_n 2, 1) := by decide +kernel
theorem dX6_setRaw_7 : decode cX6_setRaw 7 = .ok (.iconst 0, 1) := by decide +kernel
theorem dX6_setRaw_8 : decode cX6_setRaw 8 = .ok (.bipush 99, 2) := by decide +kernel
theorem dX6_setRaw_10 : decode cX6_setRaw 10 = .ok (.invokevirtual 95, 3) := by decide +kernel
theorem dX6_setRaw_13 : decode cX6_setRaw 13 = .ok (.ireturn, 1) := by decide +kernel
theorem dX6_setHeavy_0 : decode cX6_setHeavy 0 = .ok (.aload_n 0, 1) := by decide +kernel
theorem dX6_setHeavy_1 : decode cX6_setHeavy 1 = .ok (.aload_n 0, 1) := by decide +kernel
theorem dX6_setHeavy_2 : decode cX6_setHeavy 2 = .ok (.getfield 26, 3) := by decide +kernel
theorem dX6_setHeavy_5 : decode cX6_setHeavy 5 = .ok (.iload_n 1, 1) := by decide +kernel
theorem dX6_setHeavy_6 : decode cX6_setHeavy 6 = .ok (.iload_n 2, 1) := by decide +kernel
theorem dX6_setHeavy_7 : decode cX6_setHeavy 7 = .ok (.iconst 1, 1) := by decide +kernel
theorem dX6_setHeavy_8 : decode cX6_setHeavy 8 = .ok (.bipush 9, 2) := by decide +kernel
theorem dX6_setHeavy_10 : decode cX6_setHeavy 10 = .ok (.invokevirtual 95, 3) := by decide +kernel
theorem dX6_setHeavy_13 : decode cX6_setHeavy 13 = .ok (.ireturn, 1) := by decide +kernel
theorem dX6_setPlace_0 : decode cX6_setPlace 0 = .ok (.aload_n 0, 1) := by decide +kernel
theorem dX6_setPlace_1 : decode cX6_setPlace 1 = .ok (.aload_n 0, 1) := by decide +kernel
theorem dX6_setPlace_2 : decode cX6_setPlace 2 = .ok (.getfield 29, 3) := by decide +kernel
theorem dX6_setPlace_5 : decode cX6_setPlace 5 = .ok (.iload_n 1, 1) := by decide +kernel
theorem dX6_setPlace_6 : decode cX6_setPlace 6 = .ok (.iload_n 2, 1) := by decide +kernel
theorem dX6_setPlace_7 : decode cX6_setPlace 7 = .ok (.iconst 0, 1) := by decide +kernel
theorem dX6_setPlace_8 : decode cX6_setPlace 8 = .ok (.bipush 9, 2) := by decide +kernel
theorem dX6_setPlace_10 : decode cX6_setPlace 10 = .ok (.invokevirtual 95, 3) := by decide +kernel
theorem dX6_setPlace_13 : decode cX6_setPlace 13 = .ok (.ireturn, 1) := by decide +kernel
theorem dX6_isThere_0 : decode cX6_isThere 0 = .ok (.iconst 0, 1) := by decide +kernel
theorem dX6_isThere_1 : decode cX6_isThere 1 = .ok (.istore_n 3, 1) := by decide +kernel
theorem dX6_isThere_2 : decode cX6_isThere 2 = .ok (.iload_n 3, 1) := by decide +kernel
theorem dX6_isThere_3 : decode cX6_isThere 3 = .ok (.aload_n 0, 1) := by decide +kernel
theorem dX6_isThere_4 : decode cX6_isThere 4 = .ok (.getfield 52, 3) := by decide +kernel
theorem dX6_isThere_7 : decode cX6_isThere 7 = .ok (.if_icmp .ge 35, 3) := by decide +kernel
theorem dX6_isThere_10 : decode cX6_isThere 10 = .ok (.aload_n 0, 1) := by decide +kernel
theorem dX6_isThere_11 : decode cX6_isThere 11 = .ok (.getfield 32, 3) := by decide +kernel
theorem dX6_isThere_14 : decode cX6_isThere 14 = .ok (.iload_n 3, 1) := by decide +kernel
theorem dX6_isThere_15 : decode cX6_isThere 15 = .ok (.invokevirtual 65, 3) := by decide +kernel
theorem dX6_isThere_18 : decode cX6_isThere 18 = .ok (.iload_n 1, 1) := by decide +kernel
theorem dX6_isThere_19 : decode cX6_isThere 19 = .ok (.if_icmp .ne 17, 3) := by decide +kernel
theorem dX6_isThere_36 : decode cX6_isThere 36 = .ok (.iinc 3 1, 3) := by decide +kernel
theorem dX6_isThere_39 : decode cX6_isThere 39 = .ok (.goto (-37), 3) := by decide +kernel
theorem dX6_isThere_22 : decode cX6_isThere 22 = .ok (.aload_n 0, 1) := by decide +kernel
theorem dX6_isThere_23 : decode cX6_isThere 23 = .ok (.getfield 35, 3) := by decide +kernel
theorem dX6_isThere_26 : decode cX6_isThere 26 = .ok (.iload_n 3, 1) := by decide +kernel
theorem dX6_isThere_27 : decode cX6_isThere 27 = .ok (.invokevirtual 65, 3) := by decide +kernel
theorem dX6_isThere_30 : decode cX6_isThere 30 = .ok (.iload_n 2, 1) := by decide +kernel
theorem dX6_isThere_31 : decode cX6_isThere 31 = .ok (.if_icmp .ne 5, 3) := by decide +kernel
theorem dX6_isThere_34 : decode cX6_isThere 34 = .ok (.iconst 1, 1) := by decide +kernel
theorem dX6_isThere_35 : decode cX6_isThere 35 = .ok (.ireturn, 1) := by decide +kernel
theorem dX6_isThere_42 : decode cX6_isThere 42 = .ok (.iconst 0, 1) := by decide +kernel
theorem dX6_isThere_43 : decode cX6_isThere 43 = .ok (.ireturn, 1) := by decide +kernel
set_option maxHeartbeats 4000000 in
set_option maxRecDepth 100000 in
theorem c_X6_trace (l : Launch) (g : GG) (a0 : Nat → Nat) (v0_raws : (Nat → Int32)) (v0_kinds : (Nat → Int32)) (v0_figures : (Nat → Int32)) (v0_heavies : (Nat → Int32)) (v0_places : (Nat → Int32)) (v0_papers : Int32) (v0_lowers : (Nat → Int32)) (v0_uppers : (Nat → Int32)) (v0_rules : Int32) (v0_bounds : (Nat → Int32)) (v0_boundCount : Int32) (v0_tieWay : Int32) (v0_reached : (Nat → Int32)) (a1 : Nat → Nat) (n1 : Nat) (v1 : (Nat → Int32)) (p2 : Int32) (hne : (m_X6_trace (v0_raws, v0_kinds, v0_figures, v0_heavies, v0_places, v0_papers, v0_lowers, v0_uppers, v0_rules, v0_bounds, v0_boundCount, v0_tieWay, v0_reached) n1 v1 p2) ≠ none) : Ct l g yX6_trace cX6_trace 9 none ({ frames := 1, cells := 0, slots := 0, locals := 22 } : Room) [.ref (a0 0), .ref (a1 0), .int p2] (wX6 a0 g v0_raws v0_kinds v0_figures v0_heavies v0_places v0_papers v0_lowers v0_uppers v0_rules v0_bounds v0_boundCount v0_tieWay v0_reached ++ wX2 a1 g n1 v1) (Qv g (m_X6_trace (v0_raws, v0_kinds, v0_figures, v0_heavies, v0_places, v0_papers, v0_lowers, v0_uppers, v0_rules, v0_bounds, v0_boundCount, v0_tieWay, v0_reached) n1 v1 p2) (fun u => wX6 a0 g v0_raws v0_kinds v0_figures v0_heavies v0_places v0_papers v0_lowers v0_uppers v0_rules v0_bounds v0_boundCount v0_tieWay v0_reached ++ wX2 a1 g n1 u)) 0 0 := by
  obtain ⟨out, hf⟩ := ne_ex hne
  have hf0 := hf
  refine Ct.of (own := RX6) (by decide +kernel) rfl (Nat.le_of_ble_eq_true rfl) ?_
  intro p e s m below meth c hx hb hr hml hown hts hlocks hin hK A H locs hA hP hD hS hE ls hl
  have hl : lv_has ls 9 [(0, .ref (a0 0)), (1, .ref (a1 0)), (2, .int p2)] := hl
  unfold m_X6_trace at hf
  refine lv_iconst (v := 0) hx hb dX6_trace_0 (by decide) ?_
  refine lv_istore_n (lv' := [(3, .int (0 : Int32)), (0, .ref (a0 0)), (1, .ref (a1 0)), (2, .int p2)]) hx hb dX6_trace_1 rfl hl (by decide) rfl (fun ls hl => ?_)
  obtain ⟨r5, er5, hf⟩ := bnd hf
  refine lp_W (P := fun z => ∀ (H : Heap) (locs : List Loc) (ls : Array Slot), va_P g.1 vwCl (wX6 a0 g v0_raws v0_kinds v0_figures v0_heavies v0_places v0_papers v0_lowers v0_uppers v0_rules v0_bounds v0_boundCount v0_tieWay v0_reached ++ wX2 a1 g n1 z.2) H → va_D A (wX6 a0 g v0_raws v0_kinds v0_figures v0_heavies v0_places v0_papers v0_lowers v0_uppers v0_rules v0_bounds v0_boundCount v0_tieWay v0_reached ++ wX2 a1 g n1 z.2) → va_S A s.heap H locs → lv_has ls 9 [(0, .ref (a0 0)), (1, .ref (a1 0)), (2, .int p2), (3, .int z.1)] → W p l e { frames := 1, cells := 0, slots := 0, locals := 22 } s m [.ref (a0 0), .ref (a1 0), .int p2].toArray below meth c H locs 0 0 (MQ below (Qv g (m_X6_trace (v0_raws, v0_kinds, v0_figures, v0_heavies, v0_places, v0_papers, v0_lowers, v0_uppers, v0_rules, v0_bounds, v0_boundCount, v0_tieWay, v0_reached) n1 v1 p2) (fun u => wX6 a0 g v0_raws v0_kinds v0_figures v0_heavies v0_places v0_papers v0_lowers v0_uppers v0_rules v0_bounds v0_boundCount v0_tieWay v0_reached ++ wX2 a1 g n1 u) A) [.ref (a0 0), .ref (a1 0), .int p2].toArray s 0 0 A) (F0 m 2 ls [])) (E := fun r5 => ∀ (H : Heap) (locs : List Loc) (ls : Array Slot), va_P g.1 vwCl (wX6 a0 g v0_raws v0_kinds v0_figures v0_heavies v0_places v0_papers v0_lowers v0_uppers v0_rules v0_bounds v0_boundCount v0_tieWay v0_reached ++ wX2 a1 g n1 r5) H → va_D A (wX6 a0 g v0_raws v0_kinds v0_figures v0_heavies v0_places v0_papers v0_lowers v0_uppers v0_rules v0_bounds v0_boundCount v0_tieWay v0_reached ++ wX2 a1 g n1 r5) → va_S A s.heap H locs → lv_has ls 9 [(0, .ref (a0 0)), (1, .ref (a1 0)), (2, .int p2)] → W p l e { frames := 1, cells := 0, slots := 0, locals := 22 } s m [.ref (a0 0), .ref (a1 0), .int p2].toArray below meth c H locs 0 0 (MQ below (Qv g (m_X6_trace (v0_raws, v0_kinds, v0_figures, v0_heavies, v0_places, v0_papers, v0_lowers, v0_uppers, v0_rules, v0_bounds, v0_boundCount, v0_tieWay, v0_reached) n1 v1 p2) (fun u => wX6 a0 g v0_raws v0_kinds v0_figures v0_heavies v0_places v0_papers v0_lowers v0_uppers v0_rules v0_bounds v0_boundCount v0_tieWay v0_reached ++ wX2 a1 g n1 u) A) [.ref (a0 0), .ref (a1 0), .int p2].toArray s 0 0 A) (F0 m 22 ls [])) ?_ fu _ r5 er5 ?_ _ _ _ hP hD hS (lv_sub hl [1, 2, 3, 0] rfl)
  · rintro ⟨x2, x3⟩ y hf hB hXt H locs ls hP hD hS hl
    have hP : va_P g.1 vwCl (wX6 a0 g v0_raws v0_kinds v0_figures v0_heavies v0_places v0_papers v0_lowers v0_uppers v0_rules v0_bounds v0_boundCount v0_tieWay v0_reached ++ wX2 a1 g n1 x3) H := hP
    have hD : va_D A (wX6 a0 g v0_raws v0_kinds v0_figures v0_heavies v0_places v0_papers v0_lowers v0_uppers v0_rules v0_bounds v0_boundCount v0_tieWay v0_reached ++ wX2 a1 g n1 x3) := hD
    have hl : lv_has ls 9 [(0, .ref (a0 0)), (1, .ref (a1 0)), (2, .int p2), (3, .int x2)] := hl
    have hf : m_X6_trace_l2 (v0_raws, v0_kinds, v0_figures, v0_heavies, v0_places, v0_papers, v0_lowers, v0_uppers, v0_rules, v0_bounds, v0_boundCount, v0_tieWay, v0_reached) n1 x2 x3 = some y := hf
    unfold m_X6_trace_l2 at hf
    refine lv_iload_n hx hb dX6_trace_2 rfl (lv_at hl 3 rfl) ?_
    refine lv_aload_n hx hb dX6_trace_3 rfl (lv_at hl 0 rfl) ?_
    refine va_get (D := g.1) (ci := 7) (v := .int v0_papers) (C := RX6) (T := TX6) (N := 13) hx hb hts layX6 hown hK.1 hP 0 rfl rfl 5 (by decide) (hts _ kw54) (fun _ h9 => h9) rfl dX6_trace_4 ?_
    refine lv_icmp_ge (tgt := 22) hx hb dX6_trace_7 (by decide) (fun cb => ?_) (fun cb => ?_)
    · have hf := it_t cb hf
      exact hXt _ (Option.some.inj hf).symm _ _ _ hP hD hS (lv_sub hl [0, 1, 2] rfl)
    have hf := it_f cb hf
    refine lv_aload_n hx hb dX6_trace_10 rfl (lv_at hl 1 rfl) ?_
    refine lv_iload_n hx hb dX6_trace_11 rfl (lv_at hl 3 rfl) ?_
    refine lv_iconst (v := 0) hx hb dX6_trace_12 (by decide) ?_
    refine cV hP hD hS hA hE (fun hPc hDc hSc => rV (As := [.int x2, .int (0 : Int32)]) (rest := []) hx hb hml hown hts hK (c_X2_set l g a1 n1 x3 x2 (0 : Int32) (bnd_ne hf)) svV_X2_set kw408 rfl rfl hPc hDc hSc rfl rfl hl.1 (Nat.le_of_ble_eq_true rfl) dX6_trace_13 ⟨Nat.le_of_ble_eq_true rfl, Nat.le_of_ble_eq_true rfl, rfl, rfl, Nat.le_of_ble_eq_true rfl, Nat.le_of_ble_eq_true rfl⟩) [(19, 2)] rfl rfl rfl (fun _ => rfl) (fun x4 H locs ex4 hP hD hS => ?_)
    have hf := bnd_of hf ex4
    have hP : va_P g.1 vwCl (wX6 a0 g v0_raws v0_kinds v0_figures v0_heavies v0_places v0_papers v0_lowers v0_uppers v0_rules v0_bounds v0_boundCount v0_tieWay v0_reached ++ wX2 a1 g n1 x4) H := hP
    have hD : va_D A (wX6 a0 g v0_raws v0_kinds v0_figures v0_heavies v0_places v0_papers v0_lowers v0_uppers v0_rules v0_bounds v0_boundCount v0_tieWay v0_reached ++ wX2 a1 g n1 x4) := hD
    refine lv_iinc (v := (x2 + 1)) (lv' := [(3, .int (x2 + 1)), (0, .ref (a0 0)), (1, .ref (a1 0)), (2, .int p2)]) hx hb dX6_trace_16 hl (k := 3) rfl (by rfl) (by decide) rfl (fun ls hl => ?_)
    refine lv_goto (tgt := 2) hx hb dX6_trace_19 (by decide) ?_
    exact hB _ (Option.some.inj hf).symm _ _ _ hP hD hS (lv_sub hl [1, 2, 3, 0] rfl)
  intro H locs ls hP hD hS hl
  have hP : va_P g.1 vwCl (wX6 a0 g v0_raws v0_kinds v0_figures v0_heavies v0_places v0_papers v0_lowers v0_uppers v0_rules v0_bounds v0_boundCount v0_tieWay v0_reached ++ wX2 a1 g n1 r5) H := hP
  have hD : va_D A (wX6 a0 g v0_raws v0_kinds v0_figures v0_heavies v0_places v0_papers v0_lowers v0_uppers v0_rules v0_bounds v0_boundCount v0_tieWay v0_reached ++ wX2 a1 g n1 r5) := hD
  have hl : lv_has ls 9 [(0, .ref (a0 0)), (1, .ref (a1 0)), (2, .int p2)] := hl
  refine lv_iconst (v := 1) hx hb dX6_trace_22 (by decide) ?_
  refine lv_istore_n (lv' := [(3, .int (1 : Int32)), (0, .ref (a0 0)), (1, .ref (a1 0)), (2, .int p2)]) hx hb dX6_trace_23 rfl hl (by decide) rfl (fun ls hl => ?_)
  refine lv_iconst (v := 0) hx hb dX6_trace_24 (by decide) ?_
  refine lv_istore (lv' := [(4, .int (0 : Int32)), (3, .int (1 : Int32)), (0, .ref (a0 0)), (1, .ref (a1 0)), (2, .int p2)]) hx hb dX6_trace_25 hl (by decide) rfl (fun ls hl => ?_)
  obtain ⟨r49, er49, hf⟩ := bnd hf
  refine lp_W (P := fun z => ∀ (H : Heap) (locs : List Loc) (ls : Array Slot), va_P g.1 vwCl (wX6 a0 g v0_raws v0_kinds v0_figures v0_heavies v0_places v0_papers v0_lowers v0_uppers v0_rules v0_bounds v0_boundCount v0_tieWay v0_reached ++ wX2 a1 g n1 z.2.2) H → va_D A (wX6 a0 g v0_raws v0_kinds v0_figures v0_heavies v0_places v0_papers v0_lowers v0_uppers v0_rules v0_bounds v0_boundCount v0_tieWay v0_reached ++ wX2 a1 g n1 z.2.2) → va_S A s.heap H locs → lv_has ls 9 [(0, .ref (a0 0)), (1, .ref (a1 0)), (2, .int p2), (3, .int z.1), (4, .int z.2.1)] → W p l e { frames := 1, cells := 0, slots := 0, locals := 22 } s m [.ref (a0 0), .ref (a1 0), .int p2].toArray below meth c H locs 0 0 (MQ below (Qv g (m_X6_trace (v0_raws, v0_kinds, v0_figures, v0_heavies, v0_places, v0_papers, v0_lowers, v0_uppers, v0_rules, v0_bounds, v0_boundCount, v0_tieWay, v0_reached) n1 v1 p2) (fun u => wX6 a0 g v0_raws v0_kinds v0_figures v0_heavies v0_places v0_papers v0_lowers v0_uppers v0_rules v0_bounds v0_boundCount v0_tieWay v0_reached ++ wX2 a1 g n1 u) A) [.ref (a0 0), .ref (a1 0), .int p2].toArray s 0 0 A) (F0 m 27 ls [])) (E := fun r49 => ∀ (H : Heap) (locs : List Loc) (ls : Array Slot), va_P g.1 vwCl (wX6 a0 g v0_raws v0_kinds v0_figures v0_heavies v0_places v0_papers v0_lowers v0_uppers v0_rules v0_bounds v0_boundCount v0_tieWay v0_reached ++ wX2 a1 g n1 r49) H → va_D A (wX6 a0 g v0_raws v0_kinds v0_figures v0_heavies v0_places v0_papers v0_lowers v0_uppers v0_rules v0_bounds v0_boundCount v0_tieWay v0_reached ++ wX2 a1 g n1 r49) → va_S A s.heap H locs → lv_has ls 9 [] → W p l e { frames := 1, cells := 0, slots := 0, locals := 22 } s m [.ref (a0 0), .ref (a1 0), .int p2].toArray below meth c H locs 0 0 (MQ below (Qv g (m_X6_trace (v0_raws, v0_kinds, v0_figures, v0_heavies, v0_places, v0_papers, v0_lowers, v0_uppers, v0_rules, v0_bounds, v0_boundCount, v0_tieWay, v0_reached) n1 v1 p2) (fun u => wX6 a0 g v0_raws v0_kinds v0_figures v0_heavies v0_places v0_papers v0_lowers v0_uppers v0_rules v0_bounds v0_boundCount v0_tieWay v0_reached ++ wX2 a1 g n1 u) A) [.ref (a0 0), .ref (a1 0), .int p2].toArray s 0 0 A) (F0 m 141 ls [])) ?_ fu _ r49 er49 ?_ _ _ _ hP hD hS (lv_sub hl [2, 3, 4, 1, 0] rfl)
  · rintro ⟨x26, x27, x28⟩ y hf hB hXt H locs ls hP hD hS hl
    have hP : va_P g.1 vwCl (wX6 a0 g v0_raws v0_kinds v0_figures v0_heavies v0_places v0_papers v0_lowers v0_uppers v0_rules v0_bounds v0_boundCount v0_tieWay v0_reached ++ wX2 a1 g n1 x28) H := hP
    have hD : va_D A (wX6 a0 g v0_raws v0_kinds v0_figures v0_heavies v0_places v0_papers v0_lowers v0_uppers v0_rules v0_bounds v0_boundCount v0_tieWay v0_reached ++ wX2 a1 g n1 x28) := hD
    have hl : lv_has ls 9 [(0, .ref (a0 0)), (1, .ref (a1 0)), (2, .int p2), (3, .int x26), (4, .int x27)] := hl
    have hf : m_X6_trace_l27 (v0_raws, v0_kinds, v0_figures, v0_heavies, v0_places, v0_papers, v0_lowers, v0_uppers, v0_rules, v0_bounds, v0_boundCount, v0_tieWay, v0_reached) n1 p2 x26 x27 x28 = some y := hf
    unfold m_X6_trace_l27 at hf
    refine lv_iload hx hb dX6_trace_27 (lv_at hl 4 rfl) ?_
    refine lv_aload_n hx hb dX6_trace_29 rfl (lv_at hl 0 rfl) ?_
    refine va_get (D := g.1) (ci := 7) (v := .int v0_papers) (C := RX6) (T := TX6) (N := 13) hx hb hts layX6 hown hK.1 hP 0 rfl rfl 5 (by decide) (hts _ kw54) (fun _ h9 => h9) rfl dX6_trace_30 ?_
    refine lv_icmp_ge (tgt := 141) hx hb dX6_trace_33 (by decide) (fun cb => ?_) (fun cb => ?_)
    · have hf := it_t cb hf
      exact hXt _ (Option.some.inj hf).symm _ _ _ hP hD hS (lv_sub hl [] rfl)
    have hf := it_f cb hf
    refine lv_iload_n hx hb dX6_trace_36 rfl (lv_at hl 3 rfl) ?_
    refine lv_if_eq (tgt := 141) hx hb dX6_trace_37 (by decide) (fun cb => ?_) (fun cb => ?_)
    · have hf := it_t cb hf
      exact hXt _ (Option.some.inj hf).symm _ _ _ hP hD hS (lv_sub hl [] rfl)
    have hf := it_f cb hf
    refine lv_iconst (v := 0) hx hb dX6_trace_40 (by decide) ?_
    refine lv_istore_n (lv' := [(3, .int (0 : Int32)), (0, .ref (a0 0)), (1, .ref (a1 0)), (2, .int p2), (4, .int x27)]) hx hb dX6_trace_41 rfl hl (by decide) rfl (fun ls hl => ?_)
    refine lv_iconst (v := 0) hx hb dX6_trace_42 (by decide) ?_
    refine lv_istore (lv' := [(5, .int (0 : Int32)), (3, .int (0 : Int32)), (0, .ref (a0 0)), (1, .ref (a1 0)), (2, .int p2), (4, .int x27)]) hx hb dX6_trace_43 hl (by decide) rfl (fun ls hl => ?_)
    obtain ⟨r48, er48, hf⟩ := bnd hf
    refine lp_W (P := fun z => ∀ (H : Heap) (locs : List Loc) (ls : Array Slot), va_P g.1 vwCl (wX6 a0 g v0_raws v0_kinds v0_figures v0_heavies v0_places v0_papers v0_lowers v0_uppers v0_rules v0_bounds v0_boundCount v0_tieWay v0_reached ++ wX2 a1 g n1 z.2.2) H → va_D A (wX6 a0 g v0_raws v0_kinds v0_figures v0_heavies v0_places v0_papers v0_lowers v0_uppers v0_rules v0_bounds v0_boundCount v0_tieWay v0_reached ++ wX2 a1 g n1 z.2.2) → va_S A s.heap H locs → lv_has ls 9 [(0, .ref (a0 0)), (1, .ref (a1 0)), (2, .int p2), (3, .int z.1), (4, .int x27), (5, .int z.2.1)] → W p l e { frames := 1, cells := 0, slots := 0, locals := 22 } s m [.ref (a0 0), .ref (a1 0), .int p2].toArray below meth c H locs 0 0 (MQ below (Qv g (m_X6_trace (v0_raws, v0_kinds, v0_figures, v0_heavies, v0_places, v0_papers, v0_lowers, v0_uppers, v0_rules, v0_bounds, v0_boundCount, v0_tieWay, v0_reached) n1 v1 p2) (fun u => wX6 a0 g v0_raws v0_kinds v0_figures v0_heavies v0_places v0_papers v0_lowers v0_uppers v0_rules v0_bounds v0_boundCount v0_tieWay v0_reached ++ wX2 a1 g n1 u) A) [.ref (a0 0), .ref (a1 0), .int p2].toArray s 0 0 A) (F0 m 45 ls [])) (E := fun r48 => ∀ (H : Heap) (locs : List Loc) (ls : Array Slot), va_P g.1 vwCl (wX6 a0 g v0_raws v0_kinds v0_figures v0_heavies v0_places v0_papers v0_lowers v0_uppers v0_rules v0_bounds v0_boundCount v0_tieWay v0_reached ++ wX2 a1 g n1 r48.2) H → va_D A (wX6 a0 g v0_raws v0_kinds v0_figures v0_heavies v0_places v0_papers v0_lowers v0_uppers v0_rules v0_bounds v0_boundCount v0_tieWay v0_reached ++ wX2 a1 g n1 r48.2) → va_S A s.heap H locs → lv_has ls 9 [(0, .ref (a0 0)), (1, .ref (a1 0)), (2, .int p2), (3, .int r48.1), (4, .int x27)] → W p l e { frames := 1, cells := 0, slots := 0, locals := 22 } s m [.ref (a0 0), .ref (a1 0), .int p2].toArray below meth c H locs 0 0 (MQ below (Qv g (m_X6_trace (v0_raws, v0_kinds, v0_figures, v0_heavies, v0_places, v0_papers, v0_lowers, v0_uppers, v0_rules, v0_bounds, v0_boundCount, v0_tieWay, v0_reached) n1 v1 p2) (fun u => wX6 a0 g v0_raws v0_kinds v0_figures v0_heavies v0_places v0_papers v0_lowers v0_uppers v0_rules v0_bounds v0_boundCount v0_tieWay v0_reached ++ wX2 a1 g n1 u) A) [.ref (a0 0), .ref (a1 0), .int p2].toArray s 0 0 A) (F0 m 135 ls [])) ?_ fu _ r48 er48 ?_ _ _ _ hP hD hS (lv_sub hl [2, 3, 4, 1, 5, 0] rfl)
    · rintro ⟨x37, x38, x39⟩ y hf hB hXt H locs ls hP hD hS hl
      have hP : va_P g.1 vwCl (wX6 a0 g v0_raws v0_kinds v0_figures v0_heavies v0_places v0_papers v0_lowers v0_uppers v0_rules v0_bounds v0_boundCount v0_tieWay v0_reached ++ wX2 a1 g n1 x39) H := hP
      have hD : va_D A (wX6 a0 g v0_raws v0_kinds v0_figures v0_heavies v0_places v0_papers v0_lowers v0_uppers v0_rules v0_bounds v0_boundCount v0_tieWay v0_reached ++ wX2 a1 g n1 x39) := hD
      have hl : lv_has ls 9 [(0, .ref (a0 0)), (1, .ref (a1 0)), (2, .int p2), (3, .int x37), (4, .int x27), (5, .int x38)] := hl
      have hf : m_X6_trace_l45_2 (v0_raws, v0_kinds, v0_figures, v0_heavies, v0_places, v0_papers, v0_lowers, v0_uppers, v0_rules, v0_bounds, v0_boundCount, v0_tieWay, v0_reached) n1 p2 x37 x38 x39 = some y := hf
      unfold m_X6_trace_l45_2 at hf
      refine lv_iload hx hb dX6_trace_45 (lv_at hl 5 rfl) ?_
      refine lv_aload_n hx hb dX6_trace_47 rfl (lv_at hl 0 rfl) ?_
      refine va_get (D := g.1) (ci := 7) (v := .int v0_rules) (C := RX6) (T := TX6) (N := 13) hx hb hts layX6 hown hK.1 hP 0 rfl rfl 8 (by decide) (hts _ kw57) (fun _ h9 => h9) rfl dX6_trace_48 ?_
      refine lv_icmp_ge (tgt := 135) hx hb dX6_trace_51 (by decide) (fun cb => ?_) (fun cb => ?_)
      · have hf := it_t cb hf
        exact hXt _ (Option.some.inj hf).symm _ _ _ hP hD hS (lv_sub hl [0, 1, 2, 3, 4] rfl)
      have hf := it_f cb hf
      refine lv_aload_n hx hb dX6_trace_54 rfl (lv_at hl 0 rfl) ?_
      refine va_get (D := g.1) (ci := 7) (v := .ref (a0 11)) (C := RX6) (T := TX6) (N := 13) hx hb hts layX6 hown hK.1 hP 0 rfl rfl 6 (by decide) (hts _ kw55) (fun _ h9 => h9) rfl dX6_trace_55 ?_
      refine lv_iload hx hb dX6_trace_58 (lv_at hl 5 rfl) ?_
      refine cIp hP hD hS hA hE (fun hPc hDc hSc => rV (As := [.int x38]) (rest := []) hx hb hml hown hts hK (c_X2_get l g (fun i => a0 (i + 11)) 12 v0_lowers x38 (bnd_ne hf)) svV_X2_get kw417 rfl rfl hPc hDc hSc rfl rfl hl.1 (Nat.le_of_ble_eq_true rfl) dX6_trace_60 ⟨Nat.le_of_ble_eq_true rfl, Nat.le_of_ble_eq_true rfl, rfl, rfl, Nat.le_of_ble_eq_true rfl, Nat.le_of_ble_eq_true rfl⟩) [(11, 2)] rfl rfl rfl (fun x40 H locs ex40 nx40 hP hS => ?_)
      have hf := bnd_of hf ex40
      refine lv_istore (lv' := [(6, .int x40), (0, .ref (a0 0)), (1, .ref (a1 0)), (2, .int p2), (3, .int x37), (4, .int x27), (5, .int x38)]) hx hb dX6_trace_63 hl (by decide) rfl (fun ls hl => ?_)
      refine lv_aload_n hx hb dX6_trace_65 rfl (lv_at hl 2 rfl) ?_
      refine lv_iload hx hb dX6_trace_66 (lv_at hl 0 rfl) ?_
      refine cIp hP hD hS hA hE (fun hPc hDc hSc => rV (As := [.int x40]) (rest := []) hx hb hml hown hts hK (c_X2_get l g a1 n1 x39 x40 (bnd_ne hf)) svV_X2_get kw417 rfl rfl hPc hDc hSc rfl rfl hl.1 (Nat.le_of_ble_eq_true rfl) dX6_trace_68 ⟨Nat.le_of_ble_eq_true rfl, Nat.le_of_ble_eq_true rfl, rfl, rfl, Nat.le_of_ble_eq_true rfl, Nat.le_of_ble_eq_true rfl⟩) [(19, 2)] rfl rfl rfl (fun x41 H locs ex41 nx41 hP hS => ?_)
      have hf := bnd_of hf ex41
      refine lv_istore (lv' := [(7, .int x41), (6, .int x40), (0, .ref (a0 0)), (1, .ref (a1 0)), (2, .int p2), (3, .int x37), (4, .int x27), (5, .int x38)]) hx hb dX6_trace_71 hl (by decide) rfl (fun ls hl => ?_)
      refine lv_iload hx hb dX6_trace_73 (lv_at hl 0 rfl) ?_
      refine lv_aload_n hx hb dX6_trace_75 rfl (lv_at hl 3 rfl) ?_
      refine lv_aload_n hx hb dX6_trace_76 rfl (lv_at hl 2 rfl) ?_
      refine va_get (D := g.1) (ci := 7) (v := .ref (a0 13)) (C := RX6) (T := TX6) (N := 13) hx hb hts layX6 hown hK.1 hP 0 rfl rfl 7 (by decide) (hts _ kw56) (fun _ h9 => h9) rfl dX6_trace_77 ?_
      refine lv_iload hx hb dX6_trace_80 (lv_at hl 7 rfl) ?_
      refine cIp hP hD hS hA hE (fun hPc hDc hSc => rV (As := [.int x38]) (rest := [.ref (a1 0), .int x41]) hx hb hml hown hts hK (c_X2_get l g (fun i => a0 (i + 13)) 12 v0_uppers x38 (bnd_ne hf)) svV_X2_get kw417 rfl rfl hPc hDc hSc rfl rfl hl.1 (Nat.le_of_ble_eq_true rfl) dX6_trace_82 ⟨Nat.le_of_ble_eq_true rfl, Nat.le_of_ble_eq_true rfl, rfl, rfl, Nat.le_of_ble_eq_true rfl, Nat.le_of_ble_eq_true rfl⟩) [(13, 2)] rfl rfl rfl (fun x42 H locs ex42 nx42 hP hS => ?_)
      have hf := bnd_of hf ex42
      refine cIp hP hD hS hA hE (fun hPc hDc hSc => rV (As := [.int x42]) (rest := [.int x41]) hx hb hml hown hts hK (c_X2_get l g a1 n1 x39 x42 (bnd_ne hf)) svV_X2_get kw417 rfl rfl hPc hDc hSc rfl rfl hl.1 (Nat.le_of_ble_eq_true rfl) dX6_trace_85 ⟨Nat.le_of_ble_eq_true rfl, Nat.le_of_ble_eq_true rfl, rfl, rfl, Nat.le_of_ble_eq_true rfl, Nat.le_of_ble_eq_true rfl⟩) [(19, 2)] rfl rfl rfl (fun x43 H locs ex43 nx43 hP hS => ?_)
      have hf := bnd_of hf ex43
      refine lv_ior hx hb dX6_trace_88 ?_
      refine lv_iconst (v := 1) hx hb dX6_trace_89 (by decide) ?_
      refine lv_aload_n hx hb dX6_trace_90 rfl (lv_at hl 2 rfl) ?_
      refine va_get (D := g.1) (ci := 7) (v := .ref (a0 13)) (C := RX6) (T := TX6) (N := 13) hx hb hts layX6 hown hK.1 hP 0 rfl rfl 7 (by decide) (hts _ kw56) (fun _ h9 => h9) rfl dX6_trace_91 ?_
      refine lv_iload hx hb dX6_trace_94 (lv_at hl 7 rfl) ?_
      refine cIp hP hD hS hA hE (fun hPc hDc hSc => rV (As := [.int x38]) (rest := [.int (1 : Int32), .int (x41 ||| x43)]) hx hb hml hown hts hK (c_X2_get l g (fun i => a0 (i + 13)) 12 v0_uppers x38 (bnd_ne hf)) svV_X2_get kw417 rfl rfl hPc hDc hSc rfl rfl hl.1 (Nat.le_of_ble_eq_true rfl) dX6_trace_96 ⟨Nat.le_of_ble_eq_true rfl, Nat.le_of_ble_eq_true rfl, rfl, rfl, Nat.le_of_ble_eq_true rfl, Nat.le_of_ble_eq_true rfl⟩) [(13, 2)] rfl rfl rfl (fun x44 H locs ex44 nx44 hP hS => ?_)
      have hf := bnd_of hf ex44
      refine lv_ishl hx hb dX6_trace_99 ?_
      refine lv_ior hx hb dX6_trace_100 ?_
      obtain ⟨x45, ex45, hf⟩ := bnd hf
      refine nmI (Option.some.inj ex45) ?_
      refine lv_istore (lv' := [(8, .int x45), (7, .int x41), (6, .int x40), (0, .ref (a0 0)), (1, .ref (a1 0)), (2, .int p2), (3, .int x37), (4, .int x27), (5, .int x38)]) hx hb dX6_trace_101 hl (by decide) rfl (fun ls hl => ?_)
      refine lv_iload hx hb dX6_trace_103 (lv_at hl 0 rfl) ?_
      refine lv_iload hx hb dX6_trace_105 (lv_at hl 1 rfl) ?_
      refine lv_icmp_eq (tgt := 129) hx hb dX6_trace_107 (by decide) (fun cb => ?_) (fun cb => ?_)
      · have hf := it_t cb hf
        refine lv_iinc (v := (x38 + 1)) (lv' := [(5, .int (x38 + 1)), (8, .int x45), (7, .int x41), (6, .int x40), (0, .ref (a0 0)), (1, .ref (a1 0)), (2, .int p2), (3, .int x37), (4, .int x27)]) hx hb dX6_trace_129 hl (k := 8) rfl (by rfl) (by decide) rfl (fun ls hl => ?_)
        refine lv_goto (tgt := 45) hx hb dX6_trace_132 (by decide) ?_
        exact hB _ (Option.some.inj hf).symm _ _ _ hP hD hS (lv_sub hl [4, 5, 6, 7, 8, 0] rfl)
      have hf := it_f cb hf
      refine lv_iload_n hx hb dX6_trace_110 rfl (lv_at hl 5 rfl) ?_
      refine lv_iload hx hb dX6_trace_111 (lv_at hl 8 rfl) ?_
      refine cIp hP hD hS hA hE (fun hPc hDc hSc => rSN (As := [.int p2, .int x38]) (rest := []) hx hb hml hown hts hK (c_X9_hasBit l g p2 x38 (bnd_ne hf)) svS_X9_hasBit nw11 hPc hDc hSc rfl rfl hl.1 (Nat.le_of_ble_eq_true rfl) dX6_trace_113 ⟨Nat.le_of_ble_eq_true rfl, Nat.le_of_ble_eq_true rfl, rfl, rfl, Nat.le_of_ble_eq_true rfl, Nat.le_of_ble_eq_true rfl⟩) [] rfl rfl rfl (fun x46 H locs ex46 nx46 hP hS => ?_)
      have hf := bnd_of hf ex46
      refine lv_if_ne (tgt := 129) hx hb dX6_trace_116 (by decide) (fun cb => ?_) (fun cb => ?_)
      · have hf := it_f cb hf
        refine lv_iinc (v := (x38 + 1)) (lv' := [(5, .int (x38 + 1)), (8, .int x45), (7, .int x41), (6, .int x40), (0, .ref (a0 0)), (1, .ref (a1 0)), (2, .int p2), (3, .int x37), (4, .int x27)]) hx hb dX6_trace_129 hl (k := 8) rfl (by rfl) (by decide) rfl (fun ls hl => ?_)
        refine lv_goto (tgt := 45) hx hb dX6_trace_132 (by decide) ?_
        exact hB _ (Option.some.inj hf).symm _ _ _ hP hD hS (lv_sub hl [4, 5, 6, 7, 8, 0] rfl)
      have hf := it_t cb hf
      refine lv_aload_n hx hb dX6_trace_119 rfl (lv_at hl 4 rfl) ?_
      refine lv_iload hx hb dX6_trace_120 (lv_at hl 2 rfl) ?_
      refine lv_iload hx hb dX6_trace_122 (lv_at hl 0 rfl) ?_
      refine cV hP hD hS hA hE (fun hPc hDc hSc => rV (As := [.int x40, .int x45]) (rest := []) hx hb hml hown hts hK (c_X2_set l g a1 n1 x39 x40 x45 (bnd_ne hf)) svV_X2_set kw408 rfl rfl hPc hDc hSc rfl rfl hl.1 (Nat.le_of_ble_eq_true rfl) dX6_trace_124 ⟨Nat.le_of_ble_eq_true rfl, Nat.le_of_ble_eq_true rfl, rfl, rfl, Nat.le_of_ble_eq_true rfl, Nat.le_of_ble_eq_true rfl⟩) [(19, 2)] rfl rfl rfl (fun _ => rfl) (fun x47 H locs ex47 hP hD hS => ?_)
      have hf := bnd_of hf ex47
      have hP : va_P g.1 vwCl (wX6 a0 g v0_raws v0_kinds v0_figures v0_heavies v0_places v0_papers v0_lowers v0_uppers v0_rules v0_bounds v0_boundCount v0_tieWay v0_reached ++ wX2 a1 g n1 x47) H := hP
      have hD : va_D A (wX6 a0 g v0_raws v0_kinds v0_figures v0_heavies v0_places v0_papers v0_lowers v0_uppers v0_rules v0_bounds v0_boundCount v0_tieWay v0_reached ++ wX2 a1 g n1 x47) := hD
      refine lv_iconst (v := 1) hx hb dX6_trace_127 (by decide) ?_
      refine lv_istore_n (lv' := [(3, .int (1 : Int32)), (8, .int x45), (7, .int x41), (6, .int x40), (0, .ref (a0 0)), (1, .ref (a1 0)), (2, .int p2), (4, .int x27), (5, .int x38)]) hx hb dX6_trace_128 rfl hl (by decide) rfl (fun ls hl => ?_)
      refine lv_iinc (v := (x38 + 1)) (lv' := [(5, .int (x38 + 1)), (3, .int (1 : Int32)), (8, .int x45), (7, .int x41), (6, .int x40), (0, .ref (a0 0)), (1, .ref (a1 0)), (2, .int p2), (4, .int x27)]) hx hb dX6_trace_129 hl (k := 8) rfl (by rfl) (by decide) rfl (fun ls hl => ?_)
      refine lv_goto (tgt := 45) hx hb dX6_trace_132 (by decide) ?_
      exact hB _ (Option.some.inj hf).symm _ _ _ hP hD hS (lv_sub hl [5, 6, 7, 1, 8, 0] rfl)
    intro H locs ls hP hD hS hl
    have hP : va_P g.1 vwCl (wX6 a0 g v0_raws v0_kinds v0_figures v0_heavies v0_places v0_papers v0_lowers v0_uppers v0_rules v0_bounds v0_boundCount v0_tieWay v0_reached ++ wX2 a1 g n1 r48.2) H := hP
    have hD : va_D A (wX6 a0 g v0_raws v0_kinds v0_figures v0_heavies v0_places v0_papers v0_lowers v0_uppers v0_rules v0_bounds v0_boundCount v0_tieWay v0_reached ++ wX2 a1 g n1 r48.2) := hD
    have hl : lv_has ls 9 [(0, .ref (a0 0)), (1, .ref (a1 0)), (2, .int p2), (3, .int r48.1), (4, .int x27)] := hl
    refine lv_iinc (v := (x27 + 1)) (lv' := [(4, .int (x27 + 1)), (0, .ref (a0 0)), (1, .ref (a1 0)), (2, .int p2), (3, .int r48.1)]) hx hb dX6_trace_135 hl (k := 4) rfl (by rfl) (by decide) rfl (fun ls hl => ?_)
    refine lv_goto (tgt := 27) hx hb dX6_trace_138 (by decide) ?_
    exact hB _ (Option.some.inj hf).symm _ _ _ hP hD hS (lv_sub hl [1, 2, 3, 4, 0] rfl)
  intro H locs ls hP hD hS hl
  have hP : va_P g.1 vwCl (wX6 a0 g v0_raws v0_kinds v0_figures v0_heavies v0_places v0_papers v0_lowers v0_uppers v0_rules v0_bounds v0_boundCount v0_tieWay v0_reached ++ wX2 a1 g n1 r49) H := hP
  have hD : va_D A (wX6 a0 g v0_raws v0_kinds v0_figures v0_heavies v0_places v0_papers v0_lowers v0_uppers v0_rules v0_bounds v0_boundCount v0_tieWay v0_reached ++ wX2 a1 g n1 r49) := hD
  have hl : lv_has ls 9 [] := hl
  exact retV (u := r49) (W1 := fun u => wX6 a0 g v0_raws v0_kinds v0_figures v0_heavies v0_places v0_papers v0_lowers v0_uppers v0_rules v0_bounds v0_boundCount v0_tieWay v0_reached ++ wX2 a1 g n1 u) hx hb hr hlocks hS hP hD (hf0.trans hf.symm) dX6_trace_141
set_option maxHeartbeats 4000000 in
set_option maxRecDepth 100000 in
theorem c_X6_addPaper (l : Launch) (g : GG) (a0 : Nat → Nat) (v0_raws : (Nat → Int32)) (v0_kinds : (Nat → Int32)) (v0_figures : (Nat → Int32)) (v0_heavies : (Nat → Int32)) (v0_places : (Nat → Int32)) (v0_papers : Int32) (v0_lowers : (Nat → Int32)) (v0_uppers : (Nat → Int32)) (v0_rules : Int32) (v0_bounds : (Nat → Int32)) (v0_boundCount : Int32) (v0_tieWay : Int32) (v0_reached : (Nat → Int32)) (p1 : Int32) (hne : (m_X6_addPaper (v0_raws, v0_kinds, v0_figures, v0_heavies, v0_places, v0_papers, v0_lowers, v0_uppers, v0_rules, v0_bounds, v0_boundCount, v0_tieWay, v0_reached) p1) ≠ none) : Ct l g yX6_addPaper cX6_addPaper 2 (some .int) ({ frames := 1, cells := 0, slots := 0, locals := 22 } : Room) [.ref (a0 0), .int p1] (wX6 a0 g v0_raws v0_kinds v0_figures v0_heavies v0_places v0_papers v0_lowers v0_uppers v0_rules v0_bounds v0_boundCount v0_tieWay v0_reached) (Qi g .int (m_X6_addPaper (v0_raws, v0_kinds, v0_figures, v0_heavies, v0_places, v0_papers, v0_lowers, v0_uppers, v0_rules, v0_bounds, v0_boundCount, v0_tieWay, v0_reached) p1) (fun u => u.1) (fun u => wX6 a0 g u.2.1 u.2.2.1 u.2.2.2.1 u.2.2.2.2.1 u.2.2.2.2.2.1 u.2.2.2.2.2.2 v0_lowers v0_uppers v0_rules v0_bounds v0_boundCount v0_tieWay v0_reached)) 0 0 := by
  obtain ⟨out, hf⟩ := ne_ex hne
  have hf0 := hf
  refine Ct.of (own := RX6) (by decide +kernel) rfl (Nat.le_of_ble_eq_true rfl) ?_
  intro p e s m below meth c hx hb hr hml hown hts hlocks hin hK A H locs hA hP hD hS hE ls hl
  have hl : lv_has ls 2 [(0, .ref (a0 0)), (1, .int p1)] := hl
  unfold m_X6_addPaper at hf
  refine lv_iload_n hx hb dX6_addPaper_0 rfl (lv_at hl 1 rfl) ?_
  refine lv_if_ge (tgt := 7) hx hb dX6_addPaper_1 (by decide) (fun cb => ?_) (fun cb => ?_)
  · have hf := it_t cb hf
    refine lv_iload_n hx hb dX6_addPaper_7 rfl (lv_at hl 1 rfl) ?_
    refine lv_bipush (v := 99) hx hb dX6_addPaper_8 (by decide) ?_
    refine lv_icmp_gt (tgt := 22) hx hb dX6_addPaper_10 (by decide) (fun cb => ?_) (fun cb => ?_)
    · have hf := it_t cb hf
      refine lv_bipush (v := (-6)) hx hb dX6_addPaper_22 (by decide) ?_
      exact retI (v := (-6 : Int32)) (u := ((-6 : Int32), v0_raws, v0_kinds, v0_figures, v0_heavies, v0_places, v0_papers)) (val := fun u => u.1) (W1 := fun u => wX6 a0 g u.2.1 u.2.2.1 u.2.2.2.1 u.2.2.2.2.1 u.2.2.2.2.2.1 u.2.2.2.2.2.2 v0_lowers v0_uppers v0_rules v0_bounds v0_boundCount v0_tieWay v0_reached) hx hb hr hlocks hS hP hD (hf0.trans hf.symm) rfl rfl dX6_addPaper_24
    have hf := it_f cb hf
    refine lv_aload_n hx hb dX6_addPaper_13 rfl (lv_at hl 0 rfl) ?_
    refine va_get (D := g.1) (ci := 7) (v := .int v0_papers) (C := RX6) (T := TX6) (N := 13) hx hb hts layX6 hown hK.1 hP 0 rfl rfl 5 (by decide) (hts _ kw54) (fun _ h9 => h9) rfl dX6_addPaper_14 ?_
    refine lv_bipush (v := 7) hx hb dX6_addPaper_17 (by decide) ?_
    refine lv_icmp_lt (tgt := 25) hx hb dX6_addPaper_19 (by decide) (fun cb => ?_) (fun cb => ?_)
    · have hf := it_t cb hf
      refine lv_aload_n hx hb dX6_addPaper_25 rfl (lv_at hl 0 rfl) ?_
      refine va_get (D := g.1) (ci := 7) (v := .ref (a0 1)) (C := RX6) (T := TX6) (N := 13) hx hb hts layX6 hown hK.1 hP 0 rfl rfl 0 (by decide) (hts _ kw49) (fun _ h9 => h9) rfl dX6_addPaper_26 ?_
      refine lv_aload_n hx hb dX6_addPaper_29 rfl (lv_at hl 0 rfl) ?_
      refine va_get (D := g.1) (ci := 7) (v := .int v0_papers) (C := RX6) (T := TX6) (N := 13) hx hb hts layX6 hown hK.1 hP 0 rfl rfl 5 (by decide) (hts _ kw54) (fun _ h9 => h9) rfl dX6_addPaper_30 ?_
      refine lv_iload_n hx hb dX6_addPaper_33 rfl (lv_at hl 1 rfl) ?_
      refine cV hP hD hS hA hE (fun hPc hDc hSc => rV (As := [.int v0_papers, .int p1]) (rest := []) hx hb hml hown hts hK (c_X2_set l g (fun i => a0 (i + 1)) 7 v0_raws v0_papers p1 (bnd_ne hf)) svV_X2_set kw408 rfl rfl hPc hDc hSc rfl rfl hl.1 (Nat.le_of_ble_eq_true rfl) dX6_addPaper_34 ⟨Nat.le_of_ble_eq_true rfl, Nat.le_of_ble_eq_true rfl, rfl, rfl, Nat.le_of_ble_eq_true rfl, Nat.le_of_ble_eq_true rfl⟩) [(1, 2)] rfl rfl rfl (fun _ => rfl) (fun x1 H locs ex1 hP hD hS => ?_)
      have hf := bnd_of hf ex1
      have hP : va_P g.1 vwCl (wX6 a0 g x1 v0_kinds v0_figures v0_heavies v0_places v0_papers v0_lowers v0_uppers v0_rules v0_bounds v0_boundCount v0_tieWay v0_reached) H := hP
      have hD : va_D A (wX6 a0 g x1 v0_kinds v0_figures v0_heavies v0_places v0_papers v0_lowers v0_uppers v0_rules v0_bounds v0_boundCount v0_tieWay v0_reached) := hD
      refine lv_aload_n hx hb dX6_addPaper_37 rfl (lv_at hl 0 rfl) ?_
      refine va_get (D := g.1) (ci := 7) (v := .ref (a0 3)) (C := RX6) (T := TX6) (N := 13) hx hb hts layX6 hown hK.1 hP 0 rfl rfl 1 (by decide) (hts _ kw50) (fun _ h9 => h9) rfl dX6_addPaper_38 ?_
      refine lv_aload_n hx hb dX6_addPaper_41 rfl (lv_at hl 0 rfl) ?_
      refine va_get (D := g.1) (ci := 7) (v := .int v0_papers) (C := RX6) (T := TX6) (N := 13) hx hb hts layX6 hown hK.1 hP 0 rfl rfl 5 (by decide) (hts _ kw54) (fun _ h9 => h9) rfl dX6_addPaper_42 ?_
      refine lv_iconst (v := 0) hx hb dX6_addPaper_45 (by decide) ?_
      refine cV hP hD hS hA hE (fun hPc hDc hSc => rV (As := [.int v0_papers, .int (0 : Int32)]) (rest := []) hx hb hml hown hts hK (c_X2_set l g (fun i => a0 (i + 3)) 7 v0_kinds v0_papers (0 : Int32) (bnd_ne hf)) svV_X2_set kw408 rfl rfl hPc hDc hSc rfl rfl hl.1 (Nat.le_of_ble_eq_true rfl) dX6_addPaper_46 ⟨Nat.le_of_ble_eq_true rfl, Nat.le_of_ble_eq_true rfl, rfl, rfl, Nat.le_of_ble_eq_true rfl, Nat.le_of_ble_eq_true rfl⟩) [(3, 2)] rfl rfl rfl (fun _ => rfl) (fun x2 H locs ex2 hP hD hS => ?_)
      have hf := bnd_of hf ex2
      have hP : va_P g.1 vwCl (wX6 a0 g x1 x2 v0_figures v0_heavies v0_places v0_papers v0_lowers v0_uppers v0_rules v0_bounds v0_boundCount v0_tieWay v0_reached) H := hP
      have hD : va_D A (wX6 a0 g x1 x2 v0_figures v0_heavies v0_places v0_papers v0_lowers v0_uppers v0_rules v0_bounds v0_boundCount v0_tieWay v0_reached) := hD
      refine lv_aload_n hx hb dX6_addPaper_49 rfl (lv_at hl 0 rfl) ?_
      refine va_get (D := g.1) (ci := 7) (v := .ref (a0 5)) (C := RX6) (T := TX6) (N := 13) hx hb hts layX6 hown hK.1 hP 0 rfl rfl 2 (by decide) (hts _ kw51) (fun _ h9 => h9) rfl dX6_addPaper_50 ?_
      refine lv_aload_n hx hb dX6_addPaper_53 rfl (lv_at hl 0 rfl) ?_
      refine va_get (D := g.1) (ci := 7) (v := .int v0_papers) (C := RX6) (T := TX6) (N := 13) hx hb hts layX6 hown hK.1 hP 0 rfl rfl 5 (by decide) (hts _ kw54) (fun _ h9 => h9) rfl dX6_addPaper_54 ?_
      refine lv_iconst (v := 0) hx hb dX6_addPaper_57 (by decide) ?_
      refine cV hP hD hS hA hE (fun hPc hDc hSc => rV (As := [.int v0_papers, .int (0 : Int32)]) (rest := []) hx hb hml hown hts hK (c_X2_set l g (fun i => a0 (i + 5)) 7 v0_figures v0_papers (0 : Int32) (bnd_ne hf)) svV_X2_set kw408 rfl rfl hPc hDc hSc rfl rfl hl.1 (Nat.le_of_ble_eq_true rfl) dX6_addPaper_58 ⟨Nat.le_of_ble_eq_true rfl, Nat.le_of_ble_eq_true rfl, rfl, rfl, Nat.le_of_ble_eq_true rfl, Nat.le_of_ble_eq_true rfl⟩) [(5, 2)] rfl rfl rfl (fun _ => rfl) (fun x3 H locs ex3 hP hD hS => ?_)
      have hf := bnd_of hf ex3
      have hP : va_P g.1 vwCl (wX6 a0 g x1 x2 x3 v0_heavies v0_places v0_papers v0_lowers v0_uppers v0_rules v0_bounds v0_boundCount v0_tieWay v0_reached) H := hP
      have hD : va_D A (wX6 a0 g x1 x2 x3 v0_heavies v0_places v0_papers v0_lowers v0_uppers v0_rules v0_bounds v0_boundCount v0_tieWay v0_reached) := hD
      refine lv_aload_n hx hb dX6_addPaper_61 rfl (lv_at hl 0 rfl) ?_
      refine va_get (D := g.1) (ci := 7) (v := .ref (a0 7)) (C := RX6) (T := TX6) (N := 13) hx hb hts layX6 hown hK.1 hP 0 rfl rfl 3 (by decide) (hts _ kw52) (fun _ h9 => h9) rfl dX6_addPaper_62 ?_
      refine lv_aload_n hx hb dX6_addPaper_65 rfl (lv_at hl 0 rfl) ?_
      refine va_get (D := g.1) (ci := 7) (v := .int v0_papers) (C := RX6) (T := TX6) (N := 13) hx hb hts layX6 hown hK.1 hP 0 rfl rfl 5 (by decide) (hts _ kw54) (fun _ h9 => h9) rfl dX6_addPaper_66 ?_
      refine lv_iconst (v := 1) hx hb dX6_addPaper_69 (by decide) ?_
      refine cV hP hD hS hA hE (fun hPc hDc hSc => rV (As := [.int v0_papers, .int (1 : Int32)]) (rest := []) hx hb hml hown hts hK (c_X2_set l g (fun i => a0 (i + 7)) 7 v0_heavies v0_papers (1 : Int32) (bnd_ne hf)) svV_X2_set kw408 rfl rfl hPc hDc hSc rfl rfl hl.1 (Nat.le_of_ble_eq_true rfl) dX6_addPaper_70 ⟨Nat.le_of_ble_eq_true rfl, Nat.le_of_ble_eq_true rfl, rfl, rfl, Nat.le_of_ble_eq_true rfl, Nat.le_of_ble_eq_true rfl⟩) [(7, 2)] rfl rfl rfl (fun _ => rfl) (fun x4 H locs ex4 hP hD hS => ?_)
      have hf := bnd_of hf ex4
      have hP : va_P g.1 vwCl (wX6 a0 g x1 x2 x3 x4 v0_places v0_papers v0_lowers v0_uppers v0_rules v0_bounds v0_boundCount v0_tieWay v0_reached) H := hP
      have hD : va_D A (wX6 a0 g x1 x2 x3 x4 v0_places v0_papers v0_lowers v0_uppers v0_rules v0_bounds v0_boundCount v0_tieWay v0_reached) := hD
      refine lv_aload_n hx hb dX6_addPaper_73 rfl (lv_at hl 0 rfl) ?_
      refine va_get (D := g.1) (ci := 7) (v := .ref (a0 9)) (C := RX6) (T := TX6) (N := 13) hx hb hts layX6 hown hK.1 hP 0 rfl rfl 4 (by decide) (hts _ kw53) (fun _ h9 => h9) rfl dX6_addPaper_74 ?_
      refine lv_aload_n hx hb dX6_addPaper_77 rfl (lv_at hl 0 rfl) ?_
      refine va_get (D := g.1) (ci := 7) (v := .int v0_papers) (C := RX6) (T := TX6) (N := 13) hx hb hts layX6 hown hK.1 hP 0 rfl rfl 5 (by decide) (hts _ kw54) (fun _ h9 => h9) rfl dX6_addPaper_78 ?_
      refine lv_aload_n hx hb dX6_addPaper_81 rfl (lv_at hl 0 rfl) ?_
      refine va_get (D := g.1) (ci := 7) (v := .int v0_papers) (C := RX6) (T := TX6) (N := 13) hx hb hts layX6 hown hK.1 hP 0 rfl rfl 5 (by decide) (hts _ kw54) (fun _ h9 => h9) rfl dX6_addPaper_82 ?_
      refine cV hP hD hS hA hE (fun hPc hDc hSc => rV (As := [.int v0_papers, .int v0_papers]) (rest := []) hx hb hml hown hts hK (c_X2_set l g (fun i => a0 (i + 9)) 7 v0_places v0_papers v0_papers (bnd_ne hf)) svV_X2_set kw408 rfl rfl hPc hDc hSc rfl rfl hl.1 (Nat.le_of_ble_eq_true rfl) dX6_addPaper_85 ⟨Nat.le_of_ble_eq_true rfl, Nat.le_of_ble_eq_true rfl, rfl, rfl, Nat.le_of_ble_eq_true rfl, Nat.le_of_ble_eq_true rfl⟩) [(9, 2)] rfl rfl rfl (fun _ => rfl) (fun x5 H locs ex5 hP hD hS => ?_)
      have hf := bnd_of hf ex5
      have hP : va_P g.1 vwCl (wX6 a0 g x1 x2 x3 x4 x5 v0_papers v0_lowers v0_uppers v0_rules v0_bounds v0_boundCount v0_tieWay v0_reached) H := hP
      have hD : va_D A (wX6 a0 g x1 x2 x3 x4 x5 v0_papers v0_lowers v0_uppers v0_rules v0_bounds v0_boundCount v0_tieWay v0_reached) := hD
      refine lv_aload_n hx hb dX6_addPaper_88 rfl (lv_at hl 0 rfl) ?_
      refine lv_dup hx hb dX6_addPaper_89 rfl ?_
      refine va_get (D := g.1) (ci := 7) (v := .int v0_papers) (C := RX6) (T := TX6) (N := 13) hx hb hts layX6 hown hK.1 hP 0 rfl rfl 5 (by decide) (hts _ kw54) (fun _ h9 => h9) rfl dX6_addPaper_90 ?_
      refine lv_iconst (v := 1) hx hb dX6_addPaper_93 (by decide) ?_
      refine lv_iadd hx hb dX6_addPaper_94 ?_
      refine va_put (D := g.1) (ci := 7) (v := .int (v0_papers + (1 : Int32))) (ty := .int) (C := RX6) (T := TX6) (N := 13) hx hb hts layX6 tyX6 tyX6_ok nmX6 hown hK.1 hP hD hS 0 rfl rfl 5 (by decide) (hts _ kw54) (fun _ h9 => h9) rfl (tyX6_ok 5 (by decide)) rfl rfl (Nat.le_of_ble_eq_true rfl) dX6_addPaper_95 (fun H locs hP hD hS => ?_)
      have hP : va_P g.1 vwCl (wX6 a0 g x1 x2 x3 x4 x5 (v0_papers + (1 : Int32)) v0_lowers v0_uppers v0_rules v0_bounds v0_boundCount v0_tieWay v0_reached) H := hP
      have hD : va_D A (wX6 a0 g x1 x2 x3 x4 x5 (v0_papers + (1 : Int32)) v0_lowers v0_uppers v0_rules v0_bounds v0_boundCount v0_tieWay v0_reached) := hD
      refine lv_aload_n hx hb dX6_addPaper_98 rfl (lv_at hl 0 rfl) ?_
      refine va_get (D := g.1) (ci := 7) (v := .int (v0_papers + (1 : Int32))) (C := RX6) (T := TX6) (N := 13) hx hb hts layX6 hown hK.1 hP 0 rfl rfl 5 (by decide) (hts _ kw54) (fun _ h9 => h9) rfl dX6_addPaper_99 ?_
      refine lv_iconst (v := 1) hx hb dX6_addPaper_102 (by decide) ?_
      refine lv_isub hx hb dX6_addPaper_103 ?_
      exact retI (v := ((v0_papers + (1 : Int32)) - (1 : Int32))) (u := (((v0_papers + (1 : Int32)) - (1 : Int32)), x1, x2, x3, x4, x5, (v0_papers + (1 : Int32)))) (val := fun u => u.1) (W1 := fun u => wX6 a0 g u.2.1 u.2.2.1 u.2.2.2.1 u.2.2.2.2.1 u.2.2.2.2.2.1 u.2.2.2.2.2.2 v0_lowers v0_uppers v0_rules v0_bounds v0_boundCount v0_tieWay v0_reached) hx hb hr hlocks hS hP hD (hf0.trans hf.symm) rfl rfl dX6_addPaper_104
    have hf := it_f cb hf
    refine lv_bipush (v := (-6)) hx hb dX6_addPaper_22 (by decide) ?_
    exact retI (v := (-6 : Int32)) (u := ((-6 : Int32), v0_raws, v0_kinds, v0_figures, v0_heavies, v0_places, v0_papers)) (val := fun u => u.1) (W1 := fun u => wX6 a0 g u.2.1 u.2.2.1 u.2.2.2.1 u.2.2.2.2.1 u.2.2.2.2.2.1 u.2.2.2.2.2.2 v0_lowers v0_uppers v0_rules v0_bounds v0_boundCount v0_tieWay v0_reached) hx hb hr hlocks hS hP hD (hf0.trans hf.symm) rfl rfl dX6_addPaper_24
  have hf := it_f cb hf
  refine lv_bipush (v := (-4)) hx hb dX6_addPaper_4 (by decide) ?_
  exact retI (v := (-4 : Int32)) (u := ((-4 : Int32), v0_raws, v0_kinds, v0_figures, v0_heavies, v0_places, v0_papers)) (val := fun u => u.1) (W1 := fun u => wX6 a0 g u.2.1 u.2.2.1 u.2.2.2.1 u.2.2.2.2.1 u.2.2.2.2.2.1 u.2.2.2.2.2.2 v0_lowers v0_uppers v0_rules v0_bounds v0_boundCount v0_tieWay v0_reached) hx hb hr hlocks hS hP hD (hf0.trans hf.symm) rfl rfl dX6_addPaper_6
set_option maxHeartbeats 4000000 in
set_option maxRecDepth 100000 in
theorem c_X6_setKind (l : Launch) (g : GG) (a0 : Nat → Nat) (v0_raws : (Nat → Int32)) (v0_kinds : (Nat → Int32)) (v0_figures : (Nat → Int32)) (v0_heavies : (Nat → Int32)) (v0_places : (Nat → Int32)) (v0_papers : Int32) (v0_lowers : (Nat → Int32)) (v0_uppers : (Nat → Int32)) (v0_rules : Int32) (v0_bounds : (Nat → Int32)) (v0_boundCount : Int32) (v0_tieWay : Int32) (v0_reached : (Nat → Int32)) (p1 : Int32) (p2 : Int32) (p3 : Int32) (hne : (m_X6_setKind (v0_raws, v0_kinds, v0_figures, v0_heavies, v0_places, v0_papers, v0_lowers, v0_uppers, v0_rules, v0_bounds, v0_boundCount, v0_tieWay, v0_reached) p1 p2 p3) ≠ none) : Ct l g yX6_setKind cX6_setKind 5 (some .int) ({ frames := 1, cells := 0, slots := 0, locals := 22 } : Room) [.ref (a0 0), .int p1, .int p2, .int p3] (wX6 a0 g v0_raws v0_kinds v0_figures v0_heavies v0_places v0_papers v0_lowers v0_uppers v0_rules v0_bounds v0_boundCount v0_tieWay v0_reached) (Qi g .int (m_X6_setKind (v0_raws, v0_kinds, v0_figures, v0_heavies, v0_places, v0_papers, v0_lowers, v0_uppers, v0_rules, v0_bounds, v0_boundCount, v0_tieWay, v0_reached) p1 p2 p3) (fun u => u.1) (fun u => wX6 a0 g v0_raws u.2.1 u.2.2 v0_heavies v0_places v0_papers v0_lowers v0_uppers v0_rules v0_bounds v0_boundCount v0_tieWay v0_reached)) 0 0 := by
  obtain ⟨out, hf⟩ := ne_ex hne
  have hf0 := hf
  refine Ct.of (own := RX6) (by decide +kernel) rfl (Nat.le_of_ble_eq_true rfl) ?_
  intro p e s m below meth c hx hb hr hml hown hts hlocks hin hK A H locs hA hP hD hS hE ls hl
  have hl : lv_has ls 5 [(0, .ref (a0 0)), (1, .int p1), (2, .int p2), (3, .int p3)] := hl
  unfold m_X6_setKind at hf
  refine lv_aload_n hx hb dX6_setKind_0 rfl (lv_at hl 0 rfl) ?_
  refine lv_iload_n hx hb dX6_setKind_1 rfl (lv_at hl 1 rfl) ?_
  refine cIp hP hD hS hA hE (fun hPc hDc hSc => rV (As := [.int p1]) (rest := []) hx hb hml hown hts hK (c_X6_hasPaper l g a0 v0_raws v0_kinds v0_figures v0_heavies v0_places v0_papers v0_lowers v0_uppers v0_rules v0_bounds v0_boundCount v0_tieWay v0_reached p1 (bnd_ne hf)) svV_X6_hasPaper kw413 rfl rfl hPc hDc hSc rfl rfl hl.1 (Nat.le_of_ble_eq_true rfl) dX6_setKind_2 ⟨Nat.le_of_ble_eq_true rfl, Nat.le_of_ble_eq_true rfl, rfl, rfl, Nat.le_of_ble_eq_true rfl, Nat.le_of_ble_eq_true rfl⟩) [(0, 19)] rfl rfl rfl (fun x1 H locs ex1 nx1 hP hS => ?_)
  have hf := bnd_of hf ex1
  refine lv_if_ne (tgt := 10) hx hb dX6_setKind_5 (by decide) (fun cb => ?_) (fun cb => ?_)
  · have hf := it_f cb hf
    refine lv_iload_n hx hb dX6_setKind_10 rfl (lv_at hl 2 rfl) ?_
    refine lv_if_lt (tgt := 19) hx hb dX6_setKind_11 (by decide) (fun cb => ?_) (fun cb => ?_)
    · have hf := it_t cb hf
      refine lv_bipush (v := (-2)) hx hb dX6_setKind_19 (by decide) ?_
      exact retI (v := (-2 : Int32)) (u := ((-2 : Int32), v0_kinds, v0_figures)) (val := fun u => u.1) (W1 := fun u => wX6 a0 g v0_raws u.2.1 u.2.2 v0_heavies v0_places v0_papers v0_lowers v0_uppers v0_rules v0_bounds v0_boundCount v0_tieWay v0_reached) hx hb hr hlocks hS hP hD (hf0.trans hf.symm) rfl rfl dX6_setKind_21
    have hf := it_f cb hf
    refine lv_iload_n hx hb dX6_setKind_14 rfl (lv_at hl 2 rfl) ?_
    refine lv_iconst (v := 5) hx hb dX6_setKind_15 (by decide) ?_
    refine lv_icmp_le (tgt := 22) hx hb dX6_setKind_16 (by decide) (fun cb => ?_) (fun cb => ?_)
    · have hf := it_t cb hf
      refine lv_iload_n hx hb dX6_setKind_22 rfl (lv_at hl 3 rfl) ?_
      refine lv_if_ge (tgt := 29) hx hb dX6_setKind_23 (by decide) (fun cb => ?_) (fun cb => ?_)
      · have hf := it_t cb hf
        refine lv_iload_n hx hb dX6_setKind_29 rfl (lv_at hl 3 rfl) ?_
        refine lv_bipush (v := 9) hx hb dX6_setKind_30 (by decide) ?_
        refine lv_icmp_le (tgt := 38) hx hb dX6_setKind_32 (by decide) (fun cb => ?_) (fun cb => ?_)
        · have hf := it_t cb hf
          refine lv_bipush (v := 10) hx hb dX6_setKind_38 (by decide) ?_
          refine lv_aload_n hx hb dX6_setKind_40 rfl (lv_at hl 0 rfl) ?_
          refine va_get (D := g.1) (ci := 7) (v := .ref (a0 3)) (C := RX6) (T := TX6) (N := 13) hx hb hts layX6 hown hK.1 hP 0 rfl rfl 1 (by decide) (hts _ kw50) (fun _ h9 => h9) rfl dX6_setKind_41 ?_
          refine lv_iload_n hx hb dX6_setKind_44 rfl (lv_at hl 1 rfl) ?_
          refine cIp hP hD hS hA hE (fun hPc hDc hSc => rV (As := [.int p1]) (rest := [.int (10 : Int32)]) hx hb hml hown hts hK (c_X2_get l g (fun i => a0 (i + 3)) 7 v0_kinds p1 (bnd_ne hf)) svV_X2_get kw417 rfl rfl hPc hDc hSc rfl rfl hl.1 (Nat.le_of_ble_eq_true rfl) dX6_setKind_45 ⟨Nat.le_of_ble_eq_true rfl, Nat.le_of_ble_eq_true rfl, rfl, rfl, Nat.le_of_ble_eq_true rfl, Nat.le_of_ble_eq_true rfl⟩) [(3, 2)] rfl rfl rfl (fun x2 H locs ex2 nx2 hP hS => ?_)
          have hf := bnd_of hf ex2
          refine lv_imul hx hb dX6_setKind_48 ?_
          refine lv_aload_n hx hb dX6_setKind_49 rfl (lv_at hl 0 rfl) ?_
          refine va_get (D := g.1) (ci := 7) (v := .ref (a0 5)) (C := RX6) (T := TX6) (N := 13) hx hb hts layX6 hown hK.1 hP 0 rfl rfl 2 (by decide) (hts _ kw51) (fun _ h9 => h9) rfl dX6_setKind_50 ?_
          refine lv_iload_n hx hb dX6_setKind_53 rfl (lv_at hl 1 rfl) ?_
          refine cIp hP hD hS hA hE (fun hPc hDc hSc => rV (As := [.int p1]) (rest := [.int ((10 : Int32) * x2)]) hx hb hml hown hts hK (c_X2_get l g (fun i => a0 (i + 5)) 7 v0_figures p1 (bnd_ne hf)) svV_X2_get kw417 rfl rfl hPc hDc hSc rfl rfl hl.1 (Nat.le_of_ble_eq_true rfl) dX6_setKind_54 ⟨Nat.le_of_ble_eq_true rfl, Nat.le_of_ble_eq_true rfl, rfl, rfl, Nat.le_of_ble_eq_true rfl, Nat.le_of_ble_eq_true rfl⟩) [(5, 2)] rfl rfl rfl (fun x3 H locs ex3 nx3 hP hS => ?_)
          have hf := bnd_of hf ex3
          refine lv_iadd hx hb dX6_setKind_57 ?_
          refine lv_istore (lv' := [(4, .int (((10 : Int32) * x2) + x3)), (0, .ref (a0 0)), (1, .int p1), (2, .int p2), (3, .int p3)]) hx hb dX6_setKind_58 hl (by decide) rfl (fun ls hl => ?_)
          refine lv_aload_n hx hb dX6_setKind_60 rfl (lv_at hl 1 rfl) ?_
          refine va_get (D := g.1) (ci := 7) (v := .ref (a0 3)) (C := RX6) (T := TX6) (N := 13) hx hb hts layX6 hown hK.1 hP 0 rfl rfl 1 (by decide) (hts _ kw50) (fun _ h9 => h9) rfl dX6_setKind_61 ?_
          refine lv_iload_n hx hb dX6_setKind_64 rfl (lv_at hl 2 rfl) ?_
          refine lv_iload_n hx hb dX6_setKind_65 rfl (lv_at hl 3 rfl) ?_
          refine cV hP hD hS hA hE (fun hPc hDc hSc => rV (As := [.int p1, .int p2]) (rest := []) hx hb hml hown hts hK (c_X2_set l g (fun i => a0 (i + 3)) 7 v0_kinds p1 p2 (bnd_ne hf)) svV_X2_set kw408 rfl rfl hPc hDc hSc rfl rfl hl.1 (Nat.le_of_ble_eq_true rfl) dX6_setKind_66 ⟨Nat.le_of_ble_eq_true rfl, Nat.le_of_ble_eq_true rfl, rfl, rfl, Nat.le_of_ble_eq_true rfl, Nat.le_of_ble_eq_true rfl⟩) [(3, 2)] rfl rfl rfl (fun _ => rfl) (fun x4 H locs ex4 hP hD hS => ?_)
          have hf := bnd_of hf ex4
          have hP : va_P g.1 vwCl (wX6 a0 g v0_raws x4 v0_figures v0_heavies v0_places v0_papers v0_lowers v0_uppers v0_rules v0_bounds v0_boundCount v0_tieWay v0_reached) H := hP
          have hD : va_D A (wX6 a0 g v0_raws x4 v0_figures v0_heavies v0_places v0_papers v0_lowers v0_uppers v0_rules v0_bounds v0_boundCount v0_tieWay v0_reached) := hD
          refine lv_aload_n hx hb dX6_setKind_69 rfl (lv_at hl 1 rfl) ?_
          refine va_get (D := g.1) (ci := 7) (v := .ref (a0 5)) (C := RX6) (T := TX6) (N := 13) hx hb hts layX6 hown hK.1 hP 0 rfl rfl 2 (by decide) (hts _ kw51) (fun _ h9 => h9) rfl dX6_setKind_70 ?_
          refine lv_iload_n hx hb dX6_setKind_73 rfl (lv_at hl 2 rfl) ?_
          refine lv_iload_n hx hb dX6_setKind_74 rfl (lv_at hl 4 rfl) ?_
          refine cV hP hD hS hA hE (fun hPc hDc hSc => rV (As := [.int p1, .int p3]) (rest := []) hx hb hml hown hts hK (c_X2_set l g (fun i => a0 (i + 5)) 7 v0_figures p1 p3 (bnd_ne hf)) svV_X2_set kw408 rfl rfl hPc hDc hSc rfl rfl hl.1 (Nat.le_of_ble_eq_true rfl) dX6_setKind_75 ⟨Nat.le_of_ble_eq_true rfl, Nat.le_of_ble_eq_true rfl, rfl, rfl, Nat.le_of_ble_eq_true rfl, Nat.le_of_ble_eq_true rfl⟩) [(5, 2)] rfl rfl rfl (fun _ => rfl) (fun x5 H locs ex5 hP hD hS => ?_)
          have hf := bnd_of hf ex5
          have hP : va_P g.1 vwCl (wX6 a0 g v0_raws x4 x5 v0_heavies v0_places v0_papers v0_lowers v0_uppers v0_rules v0_bounds v0_boundCount v0_tieWay v0_reached) H := hP
          have hD : va_D A (wX6 a0 g v0_raws x4 x5 v0_heavies v0_places v0_papers v0_lowers v0_uppers v0_rules v0_bounds v0_boundCount v0_tieWay v0_reached) := hD
          refine lv_iload hx hb dX6_setKind_78 (lv_at hl 0 rfl) ?_
          exact retI (v := (((10 : Int32) * x2) + x3)) (u := ((((10 : Int32) * x2) + x3), x4, x5)) (val := fun u => u.1) (W1 := fun u => wX6 a0 g v0_raws u.2.1 u.2.2 v0_heavies v0_places v0_papers v0_lowers v0_uppers v0_rules v0_bounds v0_boundCount v0_tieWay v0_reached) hx hb hr hlocks hS hP hD (hf0.trans hf.symm) rfl rfl dX6_setKind_80
        have hf := it_f cb hf
        refine lv_bipush (v := (-6)) hx hb dX6_setKind_35 (by decide) ?_
        exact retI (v := (-6 : Int32)) (u := ((-6 : Int32), v0_kinds, v0_figures)) (val := fun u => u.1) (W1 := fun u => wX6 a0 g v0_raws u.2.1 u.2.2 v0_heavies v0_places v0_papers v0_lowers v0_uppers v0_rules v0_bounds v0_boundCount v0_tieWay v0_reached) hx hb hr hlocks hS hP hD (hf0.trans hf.symm) rfl rfl dX6_setKind_37
      have hf := it_f cb hf
      refine lv_bipush (v := (-4)) hx hb dX6_setKind_26 (by decide) ?_
      exact retI (v := (-4 : Int32)) (u := ((-4 : Int32), v0_kinds, v0_figures)) (val := fun u => u.1) (W1 := fun u => wX6 a0 g v0_raws u.2.1 u.2.2 v0_heavies v0_places v0_papers v0_lowers v0_uppers v0_rules v0_bounds v0_boundCount v0_tieWay v0_reached) hx hb hr hlocks hS hP hD (hf0.trans hf.symm) rfl rfl dX6_setKind_28
    have hf := it_f cb hf
    refine lv_bipush (v := (-2)) hx hb dX6_setKind_19 (by decide) ?_
    exact retI (v := (-2 : Int32)) (u := ((-2 : Int32), v0_kinds, v0_figures)) (val := fun u => u.1) (W1 := fun u => wX6 a0 g v0_raws u.2.1 u.2.2 v0_heavies v0_places v0_papers v0_lowers v0_uppers v0_rules v0_bounds v0_boundCount v0_tieWay v0_reached) hx hb hr hlocks hS hP hD (hf0.trans hf.symm) rfl rfl dX6_setKind_21
  have hf := it_t cb hf
  refine lv_iconst (v := (-1)) hx hb dX6_setKind_8 (by decide) ?_
  exact retI (v := (-1 : Int32)) (u := ((-1 : Int32), v0_kinds, v0_figures)) (val := fun u => u.1) (W1 := fun u => wX6 a0 g v0_raws u.2.1 u.2.2 v0_heavies v0_places v0_papers v0_lowers v0_uppers v0_rules v0_bounds v0_boundCount v0_tieWay v0_reached) hx hb hr hlocks hS hP hD (hf0.trans hf.symm) rfl rfl dX6_setKind_9
set_option maxHeartbeats 4000000 in
set_option maxRecDepth 100000 in
theorem c_X6_swap_0_0_1 (l : Launch) (g : GG) (a0 : Nat → Nat) (v0_raws : (Nat → Int32)) (v0_kinds : (Nat → Int32)) (v0_figures : (Nat → Int32)) (v0_heavies : (Nat → Int32)) (v0_places : (Nat → Int32)) (v0_papers : Int32) (v0_lowers : (Nat → Int32)) (v0_uppers : (Nat → Int32)) (v0_rules : Int32) (v0_bounds : (Nat → Int32)) (v0_boundCount : Int32) (v0_tieWay : Int32) (v0_reached : (Nat → Int32)) (p2 : Int32) (p3 : Int32) (p4 : Int32) (p5 : Int32) (hne : (m_X6_swap_0_0_1 (v0_raws, v0_kinds, v0_figures, v0_heavies, v0_places, v0_papers, v0_lowers, v0_uppers, v0_rules, v0_bounds, v0_boundCount, v0_tieWay, v0_reached) p2 p3 p4 p5) ≠ none) : Ct l g yX6_swap cX6_swap 7 (some .int) ({ frames := 1, cells := 0, slots := 0, locals := 22 } : Room) [.ref (a0 0), .ref (a0 1), .int p2, .int p3, .int p4, .int p5] (wX6 a0 g v0_raws v0_kinds v0_figures v0_heavies v0_places v0_papers v0_lowers v0_uppers v0_rules v0_bounds v0_boundCount v0_tieWay v0_reached) (Qi g .int (m_X6_swap_0_0_1 (v0_raws, v0_kinds, v0_figures, v0_heavies, v0_places, v0_papers, v0_lowers, v0_uppers, v0_rules, v0_bounds, v0_boundCount, v0_tieWay, v0_reached) p2 p3 p4 p5) (fun u => u.1) (fun u => wX6 a0 g u.2 v0_kinds v0_figures v0_heavies v0_places v0_papers v0_lowers v0_uppers v0_rules v0_bounds v0_boundCount v0_tieWay v0_reached)) 0 0 := by
  obtain ⟨out, hf⟩ := ne_ex hne
  have hf0 := hf
  refine Ct.of (own := RX6) (by decide +kernel) rfl (Nat.le_of_ble_eq_true rfl) ?_
  intro p e s m below meth c hx hb hr hml hown hts hlocks hin hK A H locs hA hP hD hS hE ls hl
  have hl : lv_has ls 7 [(0, .ref (a0 0)), (1, .ref (a0 1)), (2, .int p2), (3, .int p3), (4, .int p4), (5, .int p5)] := hl
  unfold m_X6_swap_0_0_1 at hf
  refine lv_aload_n hx hb dX6_swap_0 rfl (lv_at hl 0 rfl) ?_
  refine lv_iload_n hx hb dX6_swap_1 rfl (lv_at hl 2 rfl) ?_
  refine cIp hP hD hS hA hE (fun hPc hDc hSc => rV (As := [.int p2]) (rest := []) hx hb hml hown hts hK (c_X6_hasPaper l g a0 v0_raws v0_kinds v0_figures v0_heavies v0_places v0_papers v0_lowers v0_uppers v0_rules v0_bounds v0_boundCount v0_tieWay v0_reached p2 (bnd_ne hf)) svV_X6_hasPaper kw413 rfl rfl hPc hDc hSc rfl rfl hl.1 (Nat.le_of_ble_eq_true rfl) dX6_swap_2 ⟨Nat.le_of_ble_eq_true rfl, Nat.le_of_ble_eq_true rfl, rfl, rfl, Nat.le_of_ble_eq_true rfl, Nat.le_of_ble_eq_true rfl⟩) [(0, 19)] rfl rfl rfl (fun x1 H locs ex1 nx1 hP hS => ?_)
  have hf := bnd_of hf ex1
  refine lv_if_ne (tgt := 10) hx hb dX6_swap_5 (by decide) (fun cb => ?_) (fun cb => ?_)
  · have hf := it_f cb hf
    refine lv_iload_n hx hb dX6_swap_10 rfl (lv_at hl 3 rfl) ?_
    refine lv_iload hx hb dX6_swap_11 (lv_at hl 4 rfl) ?_
    refine lv_icmp_ge (tgt := 19) hx hb dX6_swap_13 (by decide) (fun cb => ?_) (fun cb => ?_)
    · have hf := it_t cb hf
      refine lv_iload_n hx hb dX6_swap_19 rfl (lv_at hl 3 rfl) ?_
      refine lv_iload hx hb dX6_swap_20 (lv_at hl 5 rfl) ?_
      refine lv_icmp_le (tgt := 28) hx hb dX6_swap_22 (by decide) (fun cb => ?_) (fun cb => ?_)
      · have hf := it_t cb hf
        refine lv_aload_n hx hb dX6_swap_28 rfl (lv_at hl 1 rfl) ?_
        refine lv_iload_n hx hb dX6_swap_29 rfl (lv_at hl 2 rfl) ?_
        refine cIp hP hD hS hA hE (fun hPc hDc hSc => rV (As := [.int p2]) (rest := []) hx hb hml hown hts hK (c_X2_get l g (fun i => a0 (i + 1)) 7 v0_raws p2 (bnd_ne hf)) svV_X2_get kw417 rfl rfl hPc hDc hSc rfl rfl hl.1 (Nat.le_of_ble_eq_true rfl) dX6_swap_30 ⟨Nat.le_of_ble_eq_true rfl, Nat.le_of_ble_eq_true rfl, rfl, rfl, Nat.le_of_ble_eq_true rfl, Nat.le_of_ble_eq_true rfl⟩) [(1, 2)] rfl rfl rfl (fun x2 H locs ex2 nx2 hP hS => ?_)
        have hf := bnd_of hf ex2
        refine lv_istore (lv' := [(6, .int x2), (0, .ref (a0 0)), (1, .ref (a0 1)), (2, .int p2), (3, .int p3), (4, .int p4), (5, .int p5)]) hx hb dX6_swap_33 hl (by decide) rfl (fun ls hl => ?_)
        refine lv_aload_n hx hb dX6_swap_35 rfl (lv_at hl 2 rfl) ?_
        refine lv_iload_n hx hb dX6_swap_36 rfl (lv_at hl 3 rfl) ?_
        refine lv_iload_n hx hb dX6_swap_37 rfl (lv_at hl 4 rfl) ?_
        refine cV hP hD hS hA hE (fun hPc hDc hSc => rV (As := [.int p2, .int p3]) (rest := []) hx hb hml hown hts hK (c_X2_set l g (fun i => a0 (i + 1)) 7 v0_raws p2 p3 (bnd_ne hf)) svV_X2_set kw408 rfl rfl hPc hDc hSc rfl rfl hl.1 (Nat.le_of_ble_eq_true rfl) dX6_swap_38 ⟨Nat.le_of_ble_eq_true rfl, Nat.le_of_ble_eq_true rfl, rfl, rfl, Nat.le_of_ble_eq_true rfl, Nat.le_of_ble_eq_true rfl⟩) [(1, 2)] rfl rfl rfl (fun _ => rfl) (fun x3 H locs ex3 hP hD hS => ?_)
        have hf := bnd_of hf ex3
        have hP : va_P g.1 vwCl (wX6 a0 g x3 v0_kinds v0_figures v0_heavies v0_places v0_papers v0_lowers v0_uppers v0_rules v0_bounds v0_boundCount v0_tieWay v0_reached) H := hP
        have hD : va_D A (wX6 a0 g x3 v0_kinds v0_figures v0_heavies v0_places v0_papers v0_lowers v0_uppers v0_rules v0_bounds v0_boundCount v0_tieWay v0_reached) := hD
        refine lv_iload hx hb dX6_swap_41 (lv_at hl 0 rfl) ?_
        exact retI (v := x2) (u := (x2, x3)) (val := fun u => u.1) (W1 := fun u => wX6 a0 g u.2 v0_kinds v0_figures v0_heavies v0_places v0_papers v0_lowers v0_uppers v0_rules v0_bounds v0_boundCount v0_tieWay v0_reached) hx hb hr hlocks hS hP hD (hf0.trans hf.symm) rfl rfl dX6_swap_43
      have hf := it_f cb hf
      refine lv_bipush (v := (-6)) hx hb dX6_swap_25 (by decide) ?_
      exact retI (v := (-6 : Int32)) (u := ((-6 : Int32), v0_raws)) (val := fun u => u.1) (W1 := fun u => wX6 a0 g u.2 v0_kinds v0_figures v0_heavies v0_places v0_papers v0_lowers v0_uppers v0_rules v0_bounds v0_boundCount v0_tieWay v0_reached) hx hb hr hlocks hS hP hD (hf0.trans hf.symm) rfl rfl dX6_swap_27
    have hf := it_f cb hf
    refine lv_bipush (v := (-4)) hx hb dX6_swap_16 (by decide) ?_
    exact retI (v := (-4 : Int32)) (u := ((-4 : Int32), v0_raws)) (val := fun u => u.1) (W1 := fun u => wX6 a0 g u.2 v0_kinds v0_figures v0_heavies v0_places v0_papers v0_lowers v0_uppers v0_rules v0_bounds v0_boundCount v0_tieWay v0_reached) hx hb hr hlocks hS hP hD (hf0.trans hf.symm) rfl rfl dX6_swap_18
  have hf := it_t cb hf
  refine lv_iconst (v := (-1)) hx hb dX6_swap_8 (by decide) ?_
  exact retI (v := (-1 : Int32)) (u := ((-1 : Int32), v0_raws)) (val := fun u => u.1) (W1 := fun u => wX6 a0 g u.2 v0_kinds v0_figures v0_heavies v0_places v0_papers v0_lowers v0_uppers v0_rules v0_bounds v0_boundCount v0_tieWay v0_reached) hx hb hr hlocks hS hP hD (hf0.trans hf.symm) rfl rfl dX6_swap_9
set_option maxHeartbeats 4000000 in
set_option maxRecDepth 100000 in
theorem c_X6_setRaw (l : Launch) (g : GG) (a0 : Nat → Nat) (v0_raws : (Nat → Int32)) (v0_kinds : (Nat → Int32)) (v0_figures : (Nat → Int32)) (v0_heavies : (Nat → Int32)) (v0_places : (Nat → Int32)) (v0_papers : Int32) (v0_lowers : (Nat → Int32)) (v0_uppers : (Nat → Int32)) (v0_rules : Int32) (v0_bounds : (Nat → Int32)) (v0_boundCount : Int32) (v0_tieWay : Int32) (v0_reached : (Nat → Int32)) (p1 : Int32) (p2 : Int32) (hne : (m_X6_setRaw (v0_raws, v0_kinds, v0_figures, v0_heavies, v0_places, v0_papers, v0_lowers, v0_uppers, v0_rules, v0_bounds, v0_boundCount, v0_tieWay, v0_reached) p1 p2) ≠ none) : Ct l g yX6_setRaw cX6_setRaw 3 (some .int) ({ frames := 2, cells := 0, slots := 0, locals := 48 } : Room) [.ref (a0 0), .int p1, .int p2] (wX6 a0 g v0_raws v0_kinds v0_figures v0_heavies v0_places v0_papers v0_lowers v0_uppers v0_rules v0_bounds v0_boundCount v0_tieWay v0_reached) (Qi g .int (m_X6_setRaw (v0_raws, v0_kinds, v0_figures, v0_heavies, v0_places, v0_papers, v0_lowers, v0_uppers, v0_rules, v0_bounds, v0_boundCount, v0_tieWay, v0_reached) p1 p2) (fun u => u.1) (fun u => wX6 a0 g u.2 v0_kinds v0_figures v0_heavies v0_places v0_papers v0_lowers v0_uppers v0_rules v0_bounds v0_boundCount v0_tieWay v0_reached)) 0 0 := by
  obtain ⟨out, hf⟩ := ne_ex hne
  have hf0 := hf
  refine Ct.of (own := RX6) (by decide +kernel) rfl (Nat.le_of_ble_eq_true rfl) ?_
  intro p e s m below meth c hx hb hr hml hown hts hlocks hin hK A H locs hA hP hD hS hE ls hl
  have hl : lv_has ls 3 [(0, .ref (a0 0)), (1, .int p1), (2, .int p2)] := hl
  unfold m_X6_setRaw at hf
  refine lv_aload_n hx hb dX6_setRaw_0 rfl (lv_at hl 0 rfl) ?_
  refine lv_aload_n hx hb dX6_setRaw_1 rfl (lv_at hl 0 rfl) ?_
  refine va_get (D := g.1) (ci := 7) (v := .ref (a0 1)) (C := RX6) (T := TX6) (N := 13) hx hb hts layX6 hown hK.1 hP 0 rfl rfl 0 (by decide) (hts _ kw49) (fun _ h9 => h9) rfl dX6_setRaw_2 ?_
  refine lv_iload_n hx hb dX6_setRaw_5 rfl (lv_at hl 1 rfl) ?_
  refine lv_iload_n hx hb dX6_setRaw_6 rfl (lv_at hl 2 rfl) ?_
  refine lv_iconst (v := 0) hx hb dX6_setRaw_7 (by decide) ?_
  refine lv_bipush (v := 99) hx hb dX6_setRaw_8 (by decide) ?_
  refine cI hP hD hS hA hE (fun hPc hDc hSc => rV (As := [.ref (a0 1), .int p1, .int p2, .int (0 : Int32), .int (99 : Int32)]) (rest := []) hx hb hml hown hts hK (c_X6_swap_0_0_1 l g a0 v0_raws v0_kinds v0_figures v0_heavies v0_places v0_papers v0_lowers v0_uppers v0_rules v0_bounds v0_boundCount v0_tieWay v0_reached p1 p2 (0 : Int32) (99 : Int32) (bnd_ne hf)) svV_X6_swap kw422 rfl rfl hPc hDc hSc rfl rfl hl.1 (Nat.le_of_ble_eq_true rfl) dX6_setRaw_10 ⟨Nat.le_of_ble_eq_true rfl, Nat.le_of_ble_eq_true rfl, rfl, rfl, Nat.le_of_ble_eq_true rfl, Nat.le_of_ble_eq_true rfl⟩) [(0, 19)] rfl rfl rfl (fun _ => rfl) (fun x1 H locs ex1 nx1 hP hD hS => ?_)
  have hf := bnd_of hf ex1
  have hP : va_P g.1 vwCl (wX6 a0 g x1.2 v0_kinds v0_figures v0_heavies v0_places v0_papers v0_lowers v0_uppers v0_rules v0_bounds v0_boundCount v0_tieWay v0_reached) H := hP
  have hD : va_D A (wX6 a0 g x1.2 v0_kinds v0_figures v0_heavies v0_places v0_papers v0_lowers v0_uppers v0_rules v0_bounds v0_boundCount v0_tieWay v0_reached) := hD
  exact retI (v := x1.1) (u := (x1.1, x1.2)) (val := fun u => u.1) (W1 := fun u => wX6 a0 g u.2 v0_kinds v0_figures v0_heavies v0_places v0_papers v0_lowers v0_uppers v0_rules v0_bounds v0_boundCount v0_tieWay v0_reached) hx hb hr hlocks hS hP hD (hf0.trans hf.symm) rfl rfl dX6_setRaw_13
set_option maxHeartbeats 4000000 in
set_option maxRecDepth 100000 in
theorem c_X6_swap_0_0_7 (l : Launch) (g : GG) (a0 : Nat → Nat) (v0_raws : (Nat → Int32)) (v0_kinds : (Nat → Int32)) (v0_figures : (Nat → Int32)) (v0_heavies : (Nat → Int32)) (v0_places : (Nat → Int32)) (v0_papers : Int32) (v0_lowers : (Nat → Int32)) (v0_uppers : (Nat → Int32)) (v0_rules : Int32) (v0_bounds : (Nat → Int32)) (v0_boundCount : Int32) (v0_tieWay : Int32) (v0_reached : (Nat → Int32)) (p2 : Int32) (p3 : Int32) (p4 : Int32) (p5 : Int32) (hne : (m_X6_swap_0_0_7 (v0_raws, v0_kinds, v0_figures, v0_heavies, v0_places, v0_papers, v0_lowers, v0_uppers, v0_rules, v0_bounds, v0_boundCount, v0_tieWay, v0_reached) p2 p3 p4 p5) ≠ none) : Ct l g yX6_swap cX6_swap 7 (some .int) ({ frames := 1, cells := 0, slots := 0, locals := 22 } : Room) [.ref (a0 0), .ref (a0 7), .int p2, .int p3, .int p4, .int p5] (wX6 a0 g v0_raws v0_kinds v0_figures v0_heavies v0_places v0_papers v0_lowers v0_uppers v0_rules v0_bounds v0_boundCount v0_tieWay v0_reached) (Qi g .int (m_X6_swap_0_0_7 (v0_raws, v0_kinds, v0_figures, v0_heavies, v0_places, v0_papers, v0_lowers, v0_uppers, v0_rules, v0_bounds, v0_boundCount, v0_tieWay, v0_reached) p2 p3 p4 p5) (fun u => u.1) (fun u => wX6 a0 g v0_raws v0_kinds v0_figures u.2 v0_places v0_papers v0_lowers v0_uppers v0_rules v0_bounds v0_boundCount v0_tieWay v0_reached)) 0 0 := by
  obtain ⟨out, hf⟩ := ne_ex hne
  have hf0 := hf
  refine Ct.of (own := RX6) (by decide +kernel) rfl (Nat.le_of_ble_eq_true rfl) ?_
  intro p e s m below meth c hx hb hr hml hown hts hlocks hin hK A H locs hA hP hD hS hE ls hl
  have hl : lv_has ls 7 [(0, .ref (a0 0)), (1, .ref (a0 7)), (2, .int p2), (3, .int p3), (4, .int p4), (5, .int p5)] := hl
  unfold m_X6_swap_0_0_7 at hf
  refine lv_aload_n hx hb dX6_swap_0 rfl (lv_at hl 0 rfl) ?_
  refine lv_iload_n hx hb dX6_swap_1 rfl (lv_at hl 2 rfl) ?_
  refine cIp hP hD hS hA hE (fun hPc hDc hSc => rV (As := [.int p2]) (rest := []) hx hb hml hown hts hK (c_X6_hasPaper l g a0 v0_raws v0_kinds v0_figures v0_heavies v0_places v0_papers v0_lowers v0_uppers v0_rules v0_bounds v0_boundCount v0_tieWay v0_reached p2 (bnd_ne hf)) svV_X6_hasPaper kw413 rfl rfl hPc hDc hSc rfl rfl hl.1 (Nat.le_of_ble_eq_true rfl) dX6_swap_2 ⟨Nat.le_of_ble_eq_true rfl, Nat.le_of_ble_eq_true rfl, rfl, rfl, Nat.le_of_ble_eq_true rfl, Nat.le_of_ble_eq_true rfl⟩) [(0, 19)] rfl rfl rfl (fun x1 H locs ex1 nx1 hP hS => ?_)
  have hf := bnd_of hf ex1
  refine lv_if_ne (tgt := 10) hx hb dX6_swap_5 (by decide) (fun cb => ?_) (fun cb => ?_)
  · have hf := it_f cb hf
    refine lv_iload_n hx hb dX6_swap_10 rfl (lv_at hl 3 rfl) ?_
    refine lv_iload hx hb dX6_swap_11 (lv_at hl 4 rfl) ?_
    refine lv_icmp_ge (tgt := 19) hx hb dX6_swap_13 (by decide) (fun cb => ?_) (fun cb => ?_)
    · have hf := it_t cb hf
      refine lv_iload_n hx hb dX6_swap_19 rfl (lv_at hl 3 rfl) ?_
      refine lv_iload hx hb dX6_swap_20 (lv_at hl 5 rfl) ?_
      refine lv_icmp_le (tgt := 28) hx hb dX6_swap_22 (by decide) (fun cb => ?_) (fun cb => ?_)
      · have hf := it_t cb hf
        refine lv_aload_n hx hb dX6_swap_28 rfl (lv_at hl 1 rfl) ?_
        refine lv_iload_n hx hb dX6_swap_29 rfl (lv_at hl 2 rfl) ?_
        refine cIp hP hD hS hA hE (fun hPc hDc hSc => rV (As := [.int p2]) (rest := []) hx hb hml hown hts hK (c_X2_get l g (fun i => a0 (i + 7)) 7 v0_heavies p2 (bnd_ne hf)) svV_X2_get kw417 rfl rfl hPc hDc hSc rfl rfl hl.1 (Nat.le_of_ble_eq_true rfl) dX6_swap_30 ⟨Nat.le_of_ble_eq_true rfl, Nat.le_of_ble_eq_true rfl, rfl, rfl, Nat.le_of_ble_eq_true rfl, Nat.le_of_ble_eq_true rfl⟩) [(7, 2)] rfl rfl rfl (fun x2 H locs ex2 nx2 hP hS => ?_)
        have hf := bnd_of hf ex2
        refine lv_istore (lv' := [(6, .int x2), (0, .ref (a0 0)), (1, .ref (a0 7)), (2, .int p2), (3, .int p3), (4, .int p4), (5, .int p5)]) hx hb dX6_swap_33 hl (by decide) rfl (fun ls hl => ?_)
        refine lv_aload_n hx hb dX6_swap_35 rfl (lv_at hl 2 rfl) ?_
        refine lv_iload_n hx hb dX6_swap_36 rfl (lv_at hl 3 rfl) ?_
        refine lv_iload_n hx hb dX6_swap_37 rfl (lv_at hl 4 rfl) ?_
        refine cV hP hD hS hA hE (fun hPc hDc hSc => rV (As := [.int p2, .int p3]) (rest := []) hx hb hml hown hts hK (c_X2_set l g (fun i => a0 (i + 7)) 7 v0_heavies p2 p3 (bnd_ne hf)) svV_X2_set kw408 rfl rfl hPc hDc hSc rfl rfl hl.1 (Nat.le_of_ble_eq_true rfl) dX6_swap_38 ⟨Nat.le_of_ble_eq_true rfl, Nat.le_of_ble_eq_true rfl, rfl, rfl, Nat.le_of_ble_eq_true rfl, Nat.le_of_ble_eq_true rfl⟩) [(7, 2)] rfl rfl rfl (fun _ => rfl) (fun x3 H locs ex3 hP hD hS => ?_)
        have hf := bnd_of hf ex3
        have hP : va_P g.1 vwCl (wX6 a0 g v0_raws v0_kinds v0_figures x3 v0_places v0_papers v0_lowers v0_uppers v0_rules v0_bounds v0_boundCount v0_tieWay v0_reached) H := hP
        have hD : va_D A (wX6 a0 g v0_raws v0_kinds v0_figures x3 v0_places v0_papers v0_lowers v0_uppers v0_rules v0_bounds v0_boundCount v0_tieWay v0_reached) := hD
        refine lv_iload hx hb dX6_swap_41 (lv_at hl 0 rfl) ?_
        exact retI (v := x2) (u := (x2, x3)) (val := fun u => u.1) (W1 := fun u => wX6 a0 g v0_raws v0_kinds v0_figures u.2 v0_places v0_papers v0_lowers v0_uppers v0_rules v0_bounds v0_boundCount v0_tieWay v0_reached) hx hb hr hlocks hS hP hD (hf0.trans hf.symm) rfl rfl dX6_swap_43
      have hf := it_f cb hf
      refine lv_bipush (v := (-6)) hx hb dX6_swap_25 (by decide) ?_
      exact retI (v := (-6 : Int32)) (u := ((-6 : Int32), v0_heavies)) (val := fun u => u.1) (W1 := fun u => wX6 a0 g v0_raws v0_kinds v0_figures u.2 v0_places v0_papers v0_lowers v0_uppers v0_rules v0_bounds v0_boundCount v0_tieWay v0_reached) hx hb hr hlocks hS hP hD (hf0.trans hf.symm) rfl rfl dX6_swap_27
    have hf := it_f cb hf
    refine lv_bipush (v := (-4)) hx hb dX6_swap_16 (by decide) ?_
    exact retI (v := (-4 : Int32)) (u := ((-4 : Int32), v0_heavies)) (val := fun u => u.1) (W1 := fun u => wX6 a0 g v0_raws v0_kinds v0_figures u.2 v0_places v0_papers v0_lowers v0_uppers v0_rules v0_bounds v0_boundCount v0_tieWay v0_reached) hx hb hr hlocks hS hP hD (hf0.trans hf.symm) rfl rfl dX6_swap_18
  have hf := it_t cb hf
  refine lv_iconst (v := (-1)) hx hb dX6_swap_8 (by decide) ?_
  exact retI (v := (-1 : Int32)) (u := ((-1 : Int32), v0_heavies)) (val := fun u => u.1) (W1 := fun u => wX6 a0 g v0_raws v0_kinds v0_figures u.2 v0_places v0_papers v0_lowers v0_uppers v0_rules v0_bounds v0_boundCount v0_tieWay v0_reached) hx hb hr hlocks hS hP hD (hf0.trans hf.symm) rfl rfl dX6_swap_9
set_option maxHeartbeats 4000000 in
set_option maxRecDepth 100000 in
theorem c_X6_setHeavy (l : Launch) (g : GG) (a0 : Nat → Nat) (v0_raws : (Nat → Int32)) (v0_kinds : (Nat → Int32)) (v0_figures : (Nat → Int32)) (v0_heavies : (Nat → Int32)) (v0_places : (Nat → Int32)) (v0_papers : Int32) (v0_lowers : (Nat → Int32)) (v0_uppers : (Nat → Int32)) (v0_rules : Int32) (v0_bounds : (Nat → Int32)) (v0_boundCount : Int32) (v0_tieWay : Int32) (v0_reached : (Nat → Int32)) (p1 : Int32) (p2 : Int32) (hne : (m_X6_setHeavy (v0_raws, v0_kinds, v0_figures, v0_heavies, v0_places, v0_papers, v0_lowers, v0_uppers, v0_rules, v0_bounds, v0_boundCount, v0_tieWay, v0_reached) p1 p2) ≠ none) : Ct l g yX6_setHeavy cX6_setHeavy 3 (some .int) ({ frames := 2, cells := 0, slots := 0, locals := 48 } : Room) [.ref (a0 0), .int p1, .int p2] (wX6 a0 g v0_raws v0_kinds v0_figures v0_heavies v0_places v0_papers v0_lowers v0_uppers v0_rules v0_bounds v0_boundCount v0_tieWay v0_reached) (Qi g .int (m_X6_setHeavy (v0_raws, v0_kinds, v0_figures, v0_heavies, v0_places, v0_papers, v0_lowers, v0_uppers, v0_rules, v0_bounds, v0_boundCount, v0_tieWay, v0_reached) p1 p2) (fun u => u.1) (fun u => wX6 a0 g v0_raws v0_kinds v0_figures u.2 v0_places v0_papers v0_lowers v0_uppers v0_rules v0_bounds v0_boundCount v0_tieWay v0_reached)) 0 0 := by
  obtain ⟨out, hf⟩ := ne_ex hne
  have hf0 := hf
  refine Ct.of (own := RX6) (by decide +kernel) rfl (Nat.le_of_ble_eq_true rfl) ?_
  intro p e s m below meth c hx hb hr hml hown hts hlocks hin hK A H locs hA hP hD hS hE ls hl
  have hl : lv_has ls 3 [(0, .ref (a0 0)), (1, .int p1), (2, .int p2)] := hl
  unfold m_X6_setHeavy at hf
  refine lv_aload_n hx hb dX6_setHeavy_0 rfl (lv_at hl 0 rfl) ?_
  refine lv_aload_n hx hb dX6_setHeavy_1 rfl (lv_at hl 0 rfl) ?_
  refine va_get (D := g.1) (ci := 7) (v := .ref (a0 7)) (C := RX6) (T := TX6) (N := 13) hx hb hts layX6 hown hK.1 hP 0 rfl rfl 3 (by decide) (hts _ kw52) (fun _ h9 => h9) rfl dX6_setHeavy_2 ?_
  refine lv_iload_n hx hb dX6_setHeavy_5 rfl (lv_at hl 1 rfl) ?_
  refine lv_iload_n hx hb dX6_setHeavy_6 rfl (lv_at hl 2 rfl) ?_
  refine lv_iconst (v := 1) hx hb dX6_setHeavy_7 (by decide) ?_
  refine lv_bipush (v := 9) hx hb dX6_setHeavy_8 (by decide) ?_
  refine cI hP hD hS hA hE (fun hPc hDc hSc => rV (As := [.ref (a0 7), .int p1, .int p2, .int (1 : Int32), .int (9 : Int32)]) (rest := []) hx hb hml hown hts hK (c_X6_swap_0_0_7 l g a0 v0_raws v0_kinds v0_figures v0_heavies v0_places v0_papers v0_lowers v0_uppers v0_rules v0_bounds v0_boundCount v0_tieWay v0_reached p1 p2 (1 : Int32) (9 : Int32) (bnd_ne hf)) svV_X6_swap kw422 rfl rfl hPc hDc hSc rfl rfl hl.1 (Nat.le_of_ble_eq_true rfl) dX6_setHeavy_10 ⟨Nat.le_of_ble_eq_true rfl, Nat.le_of_ble_eq_true rfl, rfl, rfl, Nat.le_of_ble_eq_true rfl, Nat.le_of_ble_eq_true rfl⟩) [(0, 19)] rfl rfl rfl (fun _ => rfl) (fun x1 H locs ex1 nx1 hP hD hS => ?_)
  have hf := bnd_of hf ex1
  have hP : va_P g.1 vwCl (wX6 a0 g v0_raws v0_kinds v0_figures x1.2 v0_places v0_papers v0_lowers v0_uppers v0_rules v0_bounds v0_boundCount v0_tieWay v0_reached) H := hP
  have hD : va_D A (wX6 a0 g v0_raws v0_kinds v0_figures x1.2 v0_places v0_papers v0_lowers v0_uppers v0_rules v0_bounds v0_boundCount v0_tieWay v0_reached) := hD
  exact retI (v := x1.1) (u := (x1.1, x1.2)) (val := fun u => u.1) (W1 := fun u => wX6 a0 g v0_raws v0_kinds v0_figures u.2 v0_places v0_papers v0_lowers v0_uppers v0_rules v0_bounds v0_boundCount v0_tieWay v0_reached) hx hb hr hlocks hS hP hD (hf0.trans hf.symm) rfl rfl dX6_setHeavy_13
set_option maxHeartbeats 4000000 in
set_option maxRecDepth 100000 in
theorem c_X6_swap_0_0_9 (l : Launch) (g : GG) (a0 : Nat → Nat) (v0_raws : (Nat → Int32)) (v0_kinds : (Nat → Int32)) (v0_figures : (Nat → Int32)) (v0_heavies : (Nat → Int32)) (v0_places : (Nat → Int32)) (v0_papers : Int32) (v0_lowers : (Nat → Int32)) (v0_uppers : (Nat → Int32)) (v0_rules : Int32) (v0_bounds : (Nat → Int32)) (v0_boundCount : Int32) (v0_tieWay : Int32) (v0_reached : (Nat → Int32)) (p2 : Int32) (p3 : Int32) (p4 : Int32) (p5 : Int32) (hne : (m_X6_swap_0_0_9 (v0_raws, v0_kinds, v0_figures, v0_heavies, v0_places, v0_papers, v0_lowers, v0_uppers, v0_rules, v0_bounds, v0_boundCount, v0_tieWay, v0_reached) p2 p3 p4 p5) ≠ none) : Ct l g yX6_swap cX6_swap 7 (some .int) ({ frames := 1, cells := 0, slots := 0, locals := 22 } : Room) [.ref (a0 0), .ref (a0 9), .int p2, .int p3, .int p4, .int p5] (wX6 a0 g v0_raws v0_kinds v0_figures v0_heavies v0_places v0_papers v0_lowers v0_uppers v0_rules v0_bounds v0_boundCount v0_tieWay v0_reached) (Qi g .int (m_X6_swap_0_0_9 (v0_raws, v0_kinds, v0_figures, v0_heavies, v0_places, v0_papers, v0_lowers, v0_uppers, v0_rules, v0_bounds, v0_boundCount, v0_tieWay, v0_reached) p2 p3 p4 p5) (fun u => u.1) (fun u => wX6 a0 g v0_raws v0_kinds v0_figures v0_heavies u.2 v0_papers v0_lowers v0_uppers v0_rules v0_bounds v0_boundCount v0_tieWay v0_reached)) 0 0 := by
  obtain ⟨out, hf⟩ := ne_ex hne
  have hf0 := hf
  refine Ct.of (own := RX6) (by decide +kernel) rfl (Nat.le_of_ble_eq_true rfl) ?_
  intro p e s m below meth c hx hb hr hml hown hts hlocks hin hK A H locs hA hP hD hS hE ls hl
  have hl : lv_has ls 7 [(0, .ref (a0 0)), (1, .ref (a0 9)), (2, .int p2), (3, .int p3), (4, .int p4), (5, .int p5)] := hl
  unfold m_X6_swap_0_0_9 at hf
  refine lv_aload_n hx hb dX6_swap_0 rfl (lv_at hl 0 rfl) ?_
  refine lv_iload_n hx hb dX6_swap_1 rfl (lv_at hl 2 rfl) ?_
  refine cIp hP hD hS hA hE (fun hPc hDc hSc => rV (As := [.int p2]) (rest := []) hx hb hml hown hts hK (c_X6_hasPaper l g a0 v0_raws v0_kinds v0_figures v0_heavies v0_places v0_papers v0_lowers v0_uppers v0_rules v0_bounds v0_boundCount v0_tieWay v0_reached p2 (bnd_ne hf)) svV_X6_hasPaper kw413 rfl rfl hPc hDc hSc rfl rfl hl.1 (Nat.le_of_ble_eq_true rfl) dX6_swap_2 ⟨Nat.le_of_ble_eq_true rfl, Nat.le_of_ble_eq_true rfl, rfl, rfl, Nat.le_of_ble_eq_true rfl, Nat.le_of_ble_eq_true rfl⟩) [(0, 19)] rfl rfl rfl (fun x1 H locs ex1 nx1 hP hS => ?_)
  have hf := bnd_of hf ex1
  refine lv_if_ne (tgt := 10) hx hb dX6_swap_5 (by decide) (fun cb => ?_) (fun cb => ?_)
  · have hf := it_f cb hf
    refine lv_iload_n hx hb dX6_swap_10 rfl (lv_at hl 3 rfl) ?_
    refine lv_iload hx hb dX6_swap_11 (lv_at hl 4 rfl) ?_
    refine lv_icmp_ge (tgt := 19) hx hb dX6_swap_13 (by decide) (fun cb => ?_) (fun cb => ?_)
    · have hf := it_t cb hf
      refine lv_iload_n hx hb dX6_swap_19 rfl (lv_at hl 3 rfl) ?_
      refine lv_iload hx hb dX6_swap_20 (lv_at hl 5 rfl) ?_
      refine lv_icmp_le (tgt := 28) hx hb dX6_swap_22 (by decide) (fun cb => ?_) (fun cb => ?_)
      · have hf := it_t cb hf
        refine lv_aload_n hx hb dX6_swap_28 rfl (lv_at hl 1 rfl) ?_
        refine lv_iload_n hx hb dX6_swap_29 rfl (lv_at hl 2 rfl) ?_
        refine cIp hP hD hS hA hE (fun hPc hDc hSc => rV (As := [.int p2]) (rest := []) hx hb hml hown hts hK (c_X2_get l g (fun i => a0 (i + 9)) 7 v0_places p2 (bnd_ne hf)) svV_X2_get kw417 rfl rfl hPc hDc hSc rfl rfl hl.1 (Nat.le_of_ble_eq_true rfl) dX6_swap_30 ⟨Nat.le_of_ble_eq_true rfl, Nat.le_of_ble_eq_true rfl, rfl, rfl, Nat.le_of_ble_eq_true rfl, Nat.le_of_ble_eq_true rfl⟩) [(9, 2)] rfl rfl rfl (fun x2 H locs ex2 nx2 hP hS => ?_)
        have hf := bnd_of hf ex2
        refine lv_istore (lv' := [(6, .int x2), (0, .ref (a0 0)), (1, .ref (a0 9)), (2, .int p2), (3, .int p3), (4, .int p4), (5, .int p5)]) hx hb dX6_swap_33 hl (by decide) rfl (fun ls hl => ?_)
        refine lv_aload_n hx hb dX6_swap_35 rfl (lv_at hl 2 rfl) ?_
        refine lv_iload_n hx hb dX6_swap_36 rfl (lv_at hl 3 rfl) ?_
        refine lv_iload_n hx hb dX6_swap_37 rfl (lv_at hl 4 rfl) ?_
        refine cV hP hD hS hA hE (fun hPc hDc hSc => rV (As := [.int p2, .int p3]) (rest := []) hx hb hml hown hts hK (c_X2_set l g (fun i => a0 (i + 9)) 7 v0_places p2 p3 (bnd_ne hf)) svV_X2_set kw408 rfl rfl hPc hDc hSc rfl rfl hl.1 (Nat.le_of_ble_eq_true rfl) dX6_swap_38 ⟨Nat.le_of_ble_eq_true rfl, Nat.le_of_ble_eq_true rfl, rfl, rfl, Nat.le_of_ble_eq_true rfl, Nat.le_of_ble_eq_true rfl⟩) [(9, 2)] rfl rfl rfl (fun _ => rfl) (fun x3 H locs ex3 hP hD hS => ?_)
        have hf := bnd_of hf ex3
        have hP : va_P g.1 vwCl (wX6 a0 g v0_raws v0_kinds v0_figures v0_heavies x3 v0_papers v0_lowers v0_uppers v0_rules v0_bounds v0_boundCount v0_tieWay v0_reached) H := hP
        have hD : va_D A (wX6 a0 g v0_raws v0_kinds v0_figures v0_heavies x3 v0_papers v0_lowers v0_uppers v0_rules v0_bounds v0_boundCount v0_tieWay v0_reached) := hD
        refine lv_iload hx hb dX6_swap_41 (lv_at hl 0 rfl) ?_
        exact retI (v := x2) (u := (x2, x3)) (val := fun u => u.1) (W1 := fun u => wX6 a0 g v0_raws v0_kinds v0_figures v0_heavies u.2 v0_papers v0_lowers v0_uppers v0_rules v0_bounds v0_boundCount v0_tieWay v0_reached) hx hb hr hlocks hS hP hD (hf0.trans hf.symm) rfl rfl dX6_swap_43
      have hf := it_f cb hf
      refine lv_bipush (v := (-6)) hx hb dX6_swap_25 (by decide) ?_
      exact retI (v := (-6 : Int32)) (u := ((-6 : Int32), v0_places)) (val := fun u => u.1) (W1 := fun u => wX6 a0 g v0_raws v0_kinds v0_figures v0_heavies u.2 v0_papers v0_lowers v0_uppers v0_rules v0_bounds v0_boundCount v0_tieWay v0_reached) hx hb hr hlocks hS hP hD (hf0.trans hf.symm) rfl rfl dX6_swap_27
    have hf := it_f cb hf
    refine lv_bipush (v := (-4)) hx hb dX6_swap_16 (by decide) ?_
    exact retI (v := (-4 : Int32)) (u := ((-4 : Int32), v0_places)) (val := fun u => u.1) (W1 := fun u => wX6 a0 g v0_raws v0_kinds v0_figures v0_heavies u.2 v0_papers v0_lowers v0_uppers v0_rules v0_bounds v0_boundCount v0_tieWay v0_reached) hx hb hr hlocks hS hP hD (hf0.trans hf.symm) rfl rfl dX6_swap_18
  have hf := it_t cb hf
  refine lv_iconst (v := (-1)) hx hb dX6_swap_8 (by decide) ?_
  exact retI (v := (-1 : Int32)) (u := ((-1 : Int32), v0_places)) (val := fun u => u.1) (W1 := fun u => wX6 a0 g v0_raws v0_kinds v0_figures v0_heavies u.2 v0_papers v0_lowers v0_uppers v0_rules v0_bounds v0_boundCount v0_tieWay v0_reached) hx hb hr hlocks hS hP hD (hf0.trans hf.symm) rfl rfl dX6_swap_9
set_option maxHeartbeats 4000000 in
set_option maxRecDepth 100000 in
theorem c_X6_setPlace (l : Launch) (g : GG) (a0 : Nat → Nat) (v0_raws : (Nat → Int32)) (v0_kinds : (Nat → Int32)) (v0_figures : (Nat → Int32)) (v0_heavies : (Nat → Int32)) (v0_places : (Nat → Int32)) (v0_papers : Int32) (v0_lowers : (Nat → Int32)) (v0_uppers : (Nat → Int32)) (v0_rules : Int32) (v0_bounds : (Nat → Int32)) (v0_boundCount : Int32) (v0_tieWay : Int32) (v0_reached : (Nat → Int32)) (p1 : Int32) (p2 : Int32) (hne : (m_X6_setPlace (v0_raws, v0_kinds, v0_figures, v0_heavies, v0_places, v0_papers, v0_lowers, v0_uppers, v0_rules, v0_bounds, v0_boundCount, v0_tieWay, v0_reached) p1 p2) ≠ none) : Ct l g yX6_setPlace cX6_setPlace 3 (some .int) ({ frames := 2, cells := 0, slots := 0, locals := 48 } : Room) [.ref (a0 0), .int p1, .int p2] (wX6 a0 g v0_raws v0_kinds v0_figures v0_heavies v0_places v0_papers v0_lowers v0_uppers v0_rules v0_bounds v0_boundCount v0_tieWay v0_reached) (Qi g .int (m_X6_setPlace (v0_raws, v0_kinds, v0_figures, v0_heavies, v0_places, v0_papers, v0_lowers, v0_uppers, v0_rules, v0_bounds, v0_boundCount, v0_tieWay, v0_reached) p1 p2) (fun u => u.1) (fun u => wX6 a0 g v0_raws v0_kinds v0_figures v0_heavies u.2 v0_papers v0_lowers v0_uppers v0_rules v0_bounds v0_boundCount v0_tieWay v0_reached)) 0 0 := by
  obtain ⟨out, hf⟩ := ne_ex hne
  have hf0 := hf
  refine Ct.of (own := RX6) (by decide +kernel) rfl (Nat.le_of_ble_eq_true rfl) ?_
  intro p e s m below meth c hx hb hr hml hown hts hlocks hin hK A H locs hA hP hD hS hE ls hl
  have hl : lv_has ls 3 [(0, .ref (a0 0)), (1, .int p1), (2, .int p2)] := hl
  unfold m_X6_setPlace at hf
  refine lv_aload_n hx hb dX6_setPlace_0 rfl (lv_at hl 0 rfl) ?_
  refine lv_aload_n hx hb dX6_setPlace_1 rfl (lv_at hl 0 rfl) ?_
  refine va_get (D := g.1) (ci := 7) (v := .ref (a0 9)) (C := RX6) (T := TX6) (N := 13) hx hb hts layX6 hown hK.1 hP 0 rfl rfl 4 (by decide) (hts _ kw53) (fun _ h9 => h9) rfl dX6_setPlace_2 ?_
  refine lv_iload_n hx hb dX6_setPlace_5 rfl (lv_at hl 1 rfl) ?_
  refine lv_iload_n hx hb dX6_setPlace_6 rfl (lv_at hl 2 rfl) ?_
  refine lv_iconst (v := 0) hx hb dX6_setPlace_7 (by decide) ?_
  refine lv_bipush (v := 9) hx hb dX6_setPlace_8 (by decide) ?_
  refine cI hP hD hS hA hE (fun hPc hDc hSc => rV (As := [.ref (a0 9), .int p1, .int p2, .int (0 : Int32), .int (9 : Int32)]) (rest := []) hx hb hml hown hts hK (c_X6_swap_0_0_9 l g a0 v0_raws v0_kinds v0_figures v0_heavies v0_places v0_papers v0_lowers v0_uppers v0_rules v0_bounds v0_boundCount v0_tieWay v0_reached p1 p2 (0 : Int32) (9 : Int32) (bnd_ne hf)) svV_X6_swap kw422 rfl rfl hPc hDc hSc rfl rfl hl.1 (Nat.le_of_ble_eq_true rfl) dX6_setPlace_10 ⟨Nat.le_of_ble_eq_true rfl, Nat.le_of_ble_eq_true rfl, rfl, rfl, Nat.le_of_ble_eq_true rfl, Nat.le_of_ble_eq_true rfl⟩) [(0, 19)] rfl rfl rfl (fun _ => rfl) (fun x1 H locs ex1 nx1 hP hD hS => ?_)
  have hf := bnd_of hf ex1
  have hP : va_P g.1 vwCl (wX6 a0 g v0_raws v0_kinds v0_figures v0_heavies x1.2 v0_papers v0_lowers v0_uppers v0_rules v0_bounds v0_boundCount v0_tieWay v0_reached) H := hP
  have hD : va_D A (wX6 a0 g v0_raws v0_kinds v0_figures v0_heavies x1.2 v0_papers v0_lowers v0_uppers v0_rules v0_bounds v0_boundCount v0_tieWay v0_reached) := hD
  exact retI (v := x1.1) (u := (x1.1, x1.2)) (val := fun u => u.1) (W1 := fun u => wX6 a0 g v0_raws v0_kinds v0_figures v0_heavies u.2 v0_papers v0_lowers v0_uppers v0_rules v0_bounds v0_boundCount v0_tieWay v0_reached) hx hb hr hlocks hS hP hD (hf0.trans hf.symm) rfl rfl dX6_setPlace_13
set_option maxHeartbeats 4000000 in
set_option maxRecDepth 100000 in
theorem c_X6_isThere (l : Launch) (g : GG) (a0 : Nat → Nat) (v0_raws : (Nat → Int32)) (v0_kinds : (Nat → Int32)) (v0_figures : (Nat → Int32)) (v0_heavies : (Nat → Int32)) (v0_places : (Nat → Int32)) (v0_papers : Int32) (v0_lowers : (Nat → Int32)) (v0_uppers : (Nat → Int32)) (v0_rules : Int32) (v0_bounds : (Nat → Int32)) (v0_boundCount : Int32) (v0_tieWay : Int32) (v0_reached : (Nat → Int32)) (p1 : Int32) (p2 : Int32) (hne : (m_X6_isThere (v0_raws, v0_kinds, v0_figures, v0_heavies, v0_places, v0_papers, v0_lowers, v0_uppers, v0_rules, v0_bounds, v0_boundCount, v0_tieWay, v0_reached) p1 p2) ≠ none) : Ct l g yX6_isThere cX6_isThere 4 (some .boolean) ({ frames := 1, cells := 0, slots := 0, locals := 21 } : Room) [.ref (a0 0), .int p1, .int p2] (wX6 a0 g v0_raws v0_kinds v0_figures v0_heavies v0_places v0_papers v0_lowers v0_uppers v0_rules v0_bounds v0_boundCount v0_tieWay v0_reached) (Qi g .boolean (m_X6_isThere (v0_raws, v0_kinds, v0_figures, v0_heavies, v0_places, v0_papers, v0_lowers, v0_uppers, v0_rules, v0_bounds, v0_boundCount, v0_tieWay, v0_reached) p1 p2) (fun u => u) (fun u => wX6 a0 g v0_raws v0_kinds v0_figures v0_heavies v0_places v0_papers v0_lowers v0_uppers v0_rules v0_bounds v0_boundCount v0_tieWay v0_reached)) 0 0 := by
  obtain ⟨out, hf⟩ := ne_ex hne
  have hf0 := hf
  refine Ct.of (own := RX6) (by decide +kernel) rfl (Nat.le_of_ble_eq_true rfl) ?_
  intro p e s m below meth c hx hb hr hml hown hts hlocks hin hK A H locs hA hP hD hS hE ls hl
  have hl : lv_has ls 4 [(0, .ref (a0 0)), (1, .int p1), (2, .int p2)] := hl
  unfold m_X6_isThere at hf
  refine lv_iconst (v := 0) hx hb dX6_isThere_0 (by decide) ?_
  refine lv_istore_n (lv' := [(3, .int (0 : Int32)), (0, .ref (a0 0)), (1, .int p1), (2, .int p2)]) hx hb dX6_isThere_1 rfl hl (by decide) rfl (fun ls hl => ?_)
  obtain ⟨r6, er6, hf⟩ := bnd hf
  refine lp_W (P := fun z => ∀ (H : Heap) (locs : List Loc) (ls : Array Slot), va_P g.1 vwCl (wX6 a0 g v0_raws v0_kinds v0_figures v0_heavies v0_places v0_papers v0_lowers v0_uppers v0_rules v0_bounds v0_boundCount v0_tieWay v0_reached) H → va_D A (wX6 a0 g v0_raws v0_kinds v0_figures v0_heavies v0_places v0_papers v0_lowers v0_uppers v0_rules v0_bounds v0_boundCount v0_tieWay v0_reached) → va_S A s.heap H locs → lv_has ls 4 [(0, .ref (a0 0)), (1, .int p1), (2, .int p2), (3, .int z)] → W p l e { frames := 1, cells := 0, slots := 0, locals := 21 } s m [.ref (a0 0), .int p1, .int p2].toArray below meth c H locs 0 0 (MQ below (Qi g .boolean (m_X6_isThere (v0_raws, v0_kinds, v0_figures, v0_heavies, v0_places, v0_papers, v0_lowers, v0_uppers, v0_rules, v0_bounds, v0_boundCount, v0_tieWay, v0_reached) p1 p2) (fun u => u) (fun u => wX6 a0 g v0_raws v0_kinds v0_figures v0_heavies v0_places v0_papers v0_lowers v0_uppers v0_rules v0_bounds v0_boundCount v0_tieWay v0_reached) A) [.ref (a0 0), .int p1, .int p2].toArray s 0 0 A) (F0 m 2 ls [])) (E := fun r6 => match r6 with | .inl x7 => (∀ (H : Heap) (locs : List Loc) (ls : Array Slot), va_P g.1 vwCl (wX6 a0 g v0_raws v0_kinds v0_figures v0_heavies v0_places v0_papers v0_lowers v0_uppers v0_rules v0_bounds v0_boundCount v0_tieWay v0_reached) H → va_D A (wX6 a0 g v0_raws v0_kinds v0_figures v0_heavies v0_places v0_papers v0_lowers v0_uppers v0_rules v0_bounds v0_boundCount v0_tieWay v0_reached) → va_S A s.heap H locs → lv_has ls 4 [] → W p l e { frames := 1, cells := 0, slots := 0, locals := 21 } s m [.ref (a0 0), .int p1, .int p2].toArray below meth c H locs 0 0 (MQ below (Qi g .boolean (m_X6_isThere (v0_raws, v0_kinds, v0_figures, v0_heavies, v0_places, v0_papers, v0_lowers, v0_uppers, v0_rules, v0_bounds, v0_boundCount, v0_tieWay, v0_reached) p1 p2) (fun u => u) (fun u => wX6 a0 g v0_raws v0_kinds v0_figures v0_heavies v0_places v0_papers v0_lowers v0_uppers v0_rules v0_bounds v0_boundCount v0_tieWay v0_reached) A) [.ref (a0 0), .int p1, .int p2].toArray s 0 0 A) (F0 m 34 ls [])) | .inr x8 => (∀ (H : Heap) (locs : List Loc) (ls : Array Slot), va_P g.1 vwCl (wX6 a0 g v0_raws v0_kinds v0_figures v0_heavies v0_places v0_papers v0_lowers v0_uppers v0_rules v0_bounds v0_boundCount v0_tieWay v0_reached) H → va_D A (wX6 a0 g v0_raws v0_kinds v0_figures v0_heavies v0_places v0_papers v0_lowers v0_uppers v0_rules v0_bounds v0_boundCount v0_tieWay v0_reached) → va_S A s.heap H locs → lv_has ls 4 [] → W p l e { frames := 1, cells := 0, slots := 0, locals := 21 } s m [.ref (a0 0), .int p1, .int p2].toArray below meth c H locs 0 0 (MQ below (Qi g .boolean (m_X6_isThere (v0_raws, v0_kinds, v0_figures, v0_heavies, v0_places, v0_papers, v0_lowers, v0_uppers, v0_rules, v0_bounds, v0_boundCount, v0_tieWay, v0_reached) p1 p2) (fun u => u) (fun u => wX6 a0 g v0_raws v0_kinds v0_figures v0_heavies v0_places v0_papers v0_lowers v0_uppers v0_rules v0_bounds v0_boundCount v0_tieWay v0_reached) A) [.ref (a0 0), .int p1, .int p2].toArray s 0 0 A) (F0 m 42 ls []))) ?_ fu _ r6 er6 ?_ _ _ _ hP hD hS (lv_sub hl [1, 2, 3, 0] rfl)
  · rintro x3 y hf hB hXt H locs ls hP hD hS hl
    have hP : va_P g.1 vwCl (wX6 a0 g v0_raws v0_kinds v0_figures v0_heavies v0_places v0_papers v0_lowers v0_uppers v0_rules v0_bounds v0_boundCount v0_tieWay v0_reached) H := hP
    have hD : va_D A (wX6 a0 g v0_raws v0_kinds v0_figures v0_heavies v0_places v0_papers v0_lowers v0_uppers v0_rules v0_bounds v0_boundCount v0_tieWay v0_reached) := hD
    have hl : lv_has ls 4 [(0, .ref (a0 0)), (1, .int p1), (2, .int p2), (3, .int x3)] := hl
    have hf : m_X6_isThere_l2 (v0_raws, v0_kinds, v0_figures, v0_heavies, v0_places, v0_papers, v0_lowers, v0_uppers, v0_rules, v0_bounds, v0_boundCount, v0_tieWay, v0_reached) p1 p2 x3 = some y := hf
    unfold m_X6_isThere_l2 at hf
    refine lv_iload_n hx hb dX6_isThere_2 rfl (lv_at hl 3 rfl) ?_
    refine lv_aload_n hx hb dX6_isThere_3 rfl (lv_at hl 0 rfl) ?_
    refine va_get (D := g.1) (ci := 7) (v := .int v0_rules) (C := RX6) (T := TX6) (N := 13) hx hb hts layX6 hown hK.1 hP 0 rfl rfl 8 (by decide) (hts _ kw57) (fun _ h9 => h9) rfl dX6_isThere_4 ?_
    refine lv_icmp_ge (tgt := 42) hx hb dX6_isThere_7 (by decide) (fun cb => ?_) (fun cb => ?_)
    · have hf := it_t cb hf
      exact hXt _ (Option.some.inj hf).symm _ _ _ hP hD hS (lv_sub hl [] rfl)
    have hf := it_f cb hf
    refine lv_aload_n hx hb dX6_isThere_10 rfl (lv_at hl 0 rfl) ?_
    refine va_get (D := g.1) (ci := 7) (v := .ref (a0 11)) (C := RX6) (T := TX6) (N := 13) hx hb hts layX6 hown hK.1 hP 0 rfl rfl 6 (by decide) (hts _ kw55) (fun _ h9 => h9) rfl dX6_isThere_11 ?_
    refine lv_iload_n hx hb dX6_isThere_14 rfl (lv_at hl 3 rfl) ?_
    refine cIp hP hD hS hA hE (fun hPc hDc hSc => rV (As := [.int x3]) (rest := []) hx hb hml hown hts hK (c_X2_get l g (fun i => a0 (i + 11)) 12 v0_lowers x3 (bnd_ne hf)) svV_X2_get kw417 rfl rfl hPc hDc hSc rfl rfl hl.1 (Nat.le_of_ble_eq_true rfl) dX6_isThere_15 ⟨Nat.le_of_ble_eq_true rfl, Nat.le_of_ble_eq_true rfl, rfl, rfl, Nat.le_of_ble_eq_true rfl, Nat.le_of_ble_eq_true rfl⟩) [(11, 2)] rfl rfl rfl (fun x4 H locs ex4 nx4 hP hS => ?_)
    have hf := bnd_of hf ex4
    refine lv_iload_n hx hb dX6_isThere_18 rfl (lv_at hl 1 rfl) ?_
    refine lv_icmp_ne (tgt := 36) hx hb dX6_isThere_19 (by decide) (fun cb => ?_) (fun cb => ?_)
    · have hf := it_f cb hf
      refine lv_iinc (v := (x3 + 1)) (lv' := [(3, .int (x3 + 1)), (0, .ref (a0 0)), (1, .int p1), (2, .int p2)]) hx hb dX6_isThere_36 hl (k := 3) rfl (by rfl) (by decide) rfl (fun ls hl => ?_)
      refine lv_goto (tgt := 2) hx hb dX6_isThere_39 (by decide) ?_
      exact hB _ (Option.some.inj hf).symm _ _ _ hP hD hS (lv_sub hl [1, 2, 3, 0] rfl)
    have hf := it_t cb hf
    refine lv_aload_n hx hb dX6_isThere_22 rfl (lv_at hl 0 rfl) ?_
    refine va_get (D := g.1) (ci := 7) (v := .ref (a0 13)) (C := RX6) (T := TX6) (N := 13) hx hb hts layX6 hown hK.1 hP 0 rfl rfl 7 (by decide) (hts _ kw56) (fun _ h9 => h9) rfl dX6_isThere_23 ?_
    refine lv_iload_n hx hb dX6_isThere_26 rfl (lv_at hl 3 rfl) ?_
    refine cIp hP hD hS hA hE (fun hPc hDc hSc => rV (As := [.int x3]) (rest := []) hx hb hml hown hts hK (c_X2_get l g (fun i => a0 (i + 13)) 12 v0_uppers x3 (bnd_ne hf)) svV_X2_get kw417 rfl rfl hPc hDc hSc rfl rfl hl.1 (Nat.le_of_ble_eq_true rfl) dX6_isThere_27 ⟨Nat.le_of_ble_eq_true rfl, Nat.le_of_ble_eq_true rfl, rfl, rfl, Nat.le_of_ble_eq_true rfl, Nat.le_of_ble_eq_true rfl⟩) [(13, 2)] rfl rfl rfl (fun x5 H locs ex5 nx5 hP hS => ?_)
    have hf := bnd_of hf ex5
    refine lv_iload_n hx hb dX6_isThere_30 rfl (lv_at hl 2 rfl) ?_
    refine lv_icmp_ne (tgt := 36) hx hb dX6_isThere_31 (by decide) (fun cb => ?_) (fun cb => ?_)
    · have hf := it_f cb hf
      refine lv_iinc (v := (x3 + 1)) (lv' := [(3, .int (x3 + 1)), (0, .ref (a0 0)), (1, .int p1), (2, .int p2)]) hx hb dX6_isThere_36 hl (k := 3) rfl (by rfl) (by decide) rfl (fun ls hl => ?_)
      refine lv_goto (tgt := 2) hx hb dX6_isThere_39 (by decide) ?_
      exact hB _ (Option.some.inj hf).symm _ _ _ hP hD hS (lv_sub hl [1, 2, 3, 0] rfl)
    have hf := it_t cb hf
    exact hXt _ (Option.some.inj hf).symm _ _ _ hP hD hS (lv_sub hl [] rfl)
  rcases r6 with x7 | x8
  · intro H locs ls hP hD hS hl
    have hP : va_P g.1 vwCl (wX6 a0 g v0_raws v0_kinds v0_figures v0_heavies v0_places v0_papers v0_lowers v0_uppers v0_rules v0_bounds v0_boundCount v0_tieWay v0_reached) H := hP
    have hD : va_D A (wX6 a0 g v0_raws v0_kinds v0_figures v0_heavies v0_places v0_papers v0_lowers v0_uppers v0_rules v0_bounds v0_boundCount v0_tieWay v0_reached) := hD
    have hl : lv_has ls 4 [] := hl
    refine lv_iconst (v := 1) hx hb dX6_isThere_34 (by decide) ?_
    exact retI (v := (1 : Int32)) (u := (1 : Int32)) (val := fun u => u) (W1 := fun u => wX6 a0 g v0_raws v0_kinds v0_figures v0_heavies v0_places v0_papers v0_lowers v0_uppers v0_rules v0_bounds v0_boundCount v0_tieWay v0_reached) hx hb hr hlocks hS hP hD (hf0.trans hf.symm) rfl rfl dX6_isThere_35
  · intro H locs ls hP hD hS hl
    have hP : va_P g.1 vwCl (wX6 a0 g v0_raws v0_kinds v0_figures v0_heavies v0_places v0_papers v0_lowers v0_uppers v0_rules v0_bounds v0_boundCount v0_tieWay v0_reached) H := hP
    have hD : va_D A (wX6 a0 g v0_raws v0_kinds v0_figures v0_heavies v0_places v0_papers v0_lowers v0_uppers v0_rules v0_bounds v0_boundCount v0_tieWay v0_reached) := hD
    have hl : lv_has ls 4 [] := hl
    refine lv_iconst (v := 0) hx hb dX6_isThere_42 (by decide) ?_
    exact retI (v := (0 : Int32)) (u := (0 : Int32)) (val := fun u => u) (W1 := fun u => wX6 a0 g v0_raws v0_kinds v0_figures v0_heavies v0_places v0_papers v0_lowers v0_uppers v0_rules v0_bounds v0_boundCount v0_tieWay v0_reached) hx hb hr hlocks hS hP hD (hf0.trans hf.symm) rfl rfl dX6_isThere_43
