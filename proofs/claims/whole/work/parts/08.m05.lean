theorem svV_X6_areTwo : SV RX6 yX6_areTwo cX6_areTwo 3 (some .boolean) 2 := ⟨kw434, kw435, kw2, kw436, rfl, by decide, by decide, by decide +kernel⟩
theorem svV_X6_isThere : SV RX6 yX6_isThere cX6_isThere 4 (some .boolean) 2 := ⟨kw438, kw1796, kw2, kw439, rfl, by decide, by decide, by decide +kernel⟩
theorem svV_X6_isUnder : SV RX6 yX6_isUnder cX6_isUnder 3 (some .boolean) 2 := ⟨kw441, kw442, kw2, kw443, rfl, by decide, by decide, by decide +kernel⟩
theorem svV_X6_hasRule : SV RX6 yX6_hasRule cX6_hasRule 2 (some .boolean) 1 := ⟨kw455, kw456, kw2, kw457, rfl, by decide, by decide, by decide +kernel⟩
theorem svV_X2_removeAt : SV RX2 yX2_removeAt cX2_removeAt 3 none 1 := ⟨kw459, kw460, kw3, kw461, rfl, by decide, by decide, by decide +kernel⟩
theorem dX6_setPlace_0 : decode cX6_setPlace 0 = .ok (.aload_n 0, 1) := by decide +kernel
theorem dX6_setPlace_1 : decode cX6_setPlace 1 = .ok (.aload_n 0, 1) := by decide +kernel
theorem dX6_setPlace_2 : decode cX6_setPlace 2 = .ok (.getfield 29, 3) := by decide +kernel
theorem dX6_setPlace_5 : decode cX6_setPlace 5 = .ok (.iload_n 1, 1) := by decide +kernel
theorem dX6_setPlace_6 : decode cX6_setPlace 6 = .ok (.iload_n 2, 1) := by decide +kernel
theorem dX6_setPlace_7 : decode cX6_setPlace 7 = .ok (.iconst 0, 1) := by decide +kernel
theorem dX6_setPlace_8 : decode cX6_setPlace 8 = .ok (.bipush 9, 2) := by decide +kernel
theorem dX6_setPlace_10 : decode cX6_setPlace 10 = .ok (.invokevirtual 95, 3) := by decide +kernel
theorem dX6_setPlace_13 : decode cX6_setPlace 13 = .ok (.ireturn, 1) := by decide +kernel
theorem dX6_isThere_0 : decode cX6_isThere 0 = .ok (.iconst 0, 1) := by decide +kernel
theorem dX6_isThere_1 : decode cX6_isThere 1 = .ok (.istore_n 3, 1) := by decide +kernel
theorem dX6_isThere_2 : decode cX6_isThere 2 = .ok (.iload_n 3, 1) := by decide +kernel
theorem dX6_isThere_3 : decode cX6_isThere 3 = .ok (.aload_n 0, 1) := by decide +kernel
theorem dX6_isThere_4 : decode cX6_isThere 4 = .ok (.getfield 52, 3) := by decide +kernel
theorem dX6_isThere_7 : decode cX6_isThere 7 = .ok (.if_icmp .ge 35, 3) := by decide +kernel
theorem dX6_isThere_10 : decode cX6_isThere 10 = .ok (.aload_n 0, 1) := by decide +kernel
theorem dX6_isThere_11 : decode cX6_isThere 11 = .ok (.getfield 32, 3) := by decide +kernel
theorem dX6_isThere_14 : decode cX6_isThere 14 = .ok (.iload_n 3, 1) := by decide +kernel
theorem dX6_isThere_15 : decode cX6_isThere 15 = .ok (.invokevirtual 65, 3) := by decide +kernel
theorem dX6_isThere_18 : decode cX6_isThere 18 = .ok (.iload_n 1, 1) := by decide +kernel
theorem dX6_isThere_19 : decode cX6_isThere 19 = .ok (.if_icmp .ne 17, 3) := by decide +kernel
theorem dX6_isThere_36 : decode cX6_isThere 36 = .ok (.iinc 3 1, 3) := by decide +kernel
theorem dX6_isThere_39 : decode cX6_isThere 39 = .ok (.goto (-37), 3) := by decide +kernel
theorem dX6_isThere_22 : decode cX6_isThere 22 = .ok (.aload_n 0, 1) := by decide +kernel
theorem dX6_isThere_23 : decode cX6_isThere 23 = .ok (.getfield 35, 3) := by decide +kernel
theorem dX6_isThere_26 : decode cX6_isThere 26 = .ok (.iload_n 3, 1) := by decide +kernel
theorem dX6_isThere_27 : decode cX6_isThere 27 = .ok (.invokevirtual 65, 3) := by decide +kernel
theorem dX6_isThere_30 : decode cX6_isThere 30 = .ok (.iload_n 2, 1) := by decide +kernel
theorem dX6_isThere_31 : decode cX6_isThere 31 = .ok (.if_icmp .ne 5, 3) := by decide +kernel
theorem dX6_isThere_34 : decode cX6_isThere 34 = .ok (.iconst 1, 1) := by decide +kernel
theorem dX6_isThere_35 : decode cX6_isThere 35 = .ok (.ireturn, 1) := by decide +kernel
theorem dX6_isThere_42 : decode cX6_isThere 42 = .ok (.iconst 0, 1) := by decide +kernel
theorem dX6_isThere_43 : decode cX6_isThere 43 = .ok (.ireturn, 1) := by decide +kernel
theorem dX6_addRule_0 : decode cX6_addRule 0 = .ok (.aload_n 0, 1) := by decide +kernel
theorem dX6_addRule_1 : decode cX6_addRule 1 = .ok (.iload_n 1, 1) := by decide +kernel
theorem dX6_addRule_2 : decode cX6_addRule 2 = .ok (.iload_n 2, 1) := by decide +kernel
theorem dX6_addRule_3 : decode cX6_addRule 3 = .ok (.invokevirtual 99, 3) := by decide +kernel
theorem dX6_addRule_6 : decode cX6_addRule 6 = .ok (.ifCond .ne 5, 3) := by decide +kernel
theorem dX6_addRule_11 : decode cX6_addRule 11 = .ok (.aload_n 0, 1) := by decide +kernel
theorem dX6_addRule_12 : decode cX6_addRule 12 = .ok (.iload_n 1, 1) := by decide +kernel
theorem dX6_addRule_13 : decode cX6_addRule 13 = .ok (.iload_n 2, 1) := by decide +kernel
theorem dX6_addRule_14 : decode cX6_addRule 14 = .ok (.invokevirtual 102, 3) := by decide +kernel
theorem dX6_addRule_17 : decode cX6_addRule 17 = .ok (.ifCond .ne 12, 3) := by decide +kernel
theorem dX6_addRule_29 : decode cX6_addRule 29 = .ok (.bipush (-3), 2) := by decide +kernel
theorem dX6_addRule_31 : decode cX6_addRule 31 = .ok (.ireturn, 1) := by decide +kernel
theorem dX6_addRule_20 : decode cX6_addRule 20 = .ok (.aload_n 0, 1) := by decide +kernel
theorem dX6_addRule_21 : decode cX6_addRule 21 = .ok (.iload_n 2, 1) := by decide +kernel
theorem dX6_addRule_22 : decode cX6_addRule 22 = .ok (.iload_n 1, 1) := by decide +kernel
theorem dX6_addRule_23 : decode cX6_addRule 23 = .ok (.invokevirtual 105, 3) := by decide +kernel
theorem dX6_addRule_26 : decode cX6_addRule 26 = .ok (.ifCond .eq 6, 3) := by decide +kernel
theorem dX6_addRule_32 : decode cX6_addRule 32 = .ok (.aload_n 0, 1) := by decide +kernel
theorem dX6_addRule_33 : decode cX6_addRule 33 = .ok (.getfield 52, 3) := by decide +kernel
theorem dX6_addRule_36 : decode cX6_addRule 36 = .ok (.bipush 12, 2) := by decide +kernel
theorem dX6_addRule_38 : decode cX6_addRule 38 = .ok (.if_icmp .lt 6, 3) := by decide +kernel
theorem dX6_addRule_44 : decode cX6_addRule 44 = .ok (.aload_n 0, 1) := by decide +kernel
theorem dX6_addRule_45 : decode cX6_addRule 45 = .ok (.getfield 32, 3) := by decide +kernel
theorem dX6_addRule_48 : decode cX6_addRule 48 = .ok (.aload_n 0, 1) := by decide +kernel
theorem dX6_addRule_49 : decode cX6_addRule 49 = .ok (.getfield 52, 3) := by decide +kernel
theorem dX6_addRule_52 : decode cX6_addRule 52 = .ok (.iload_n 1, 1) := by decide +kernel
theorem dX6_addRule_53 : decode cX6_addRule 53 = .ok (.invokevirtual 91, 3) := by decide +kernel
theorem dX6_addRule_56 : decode cX6_addRule 56 = .ok (.aload_n 0, 1) := by decide +kernel
theorem dX6_addRule_57 : decode cX6_addRule 57 = .ok (.getfield 35, 3) := by decide +kernel
theorem dX6_addRule_60 : decode cX6_addRule 60 = .ok (.aload_n 0, 1) := by decide +kernel
theorem dX6_addRule_61 : decode cX6_addRule 61 = .ok (.getfield 52, 3) := by decide +kernel
theorem dX6_addRule_64 : decode cX6_addRule 64 = .ok (.iload_n 2, 1) := by decide +kernel
theorem dX6_addRule_65 : decode cX6_addRule 65 = .ok (.invokevirtual 91, 3) := by decide +kernel
theorem dX6_addRule_68 : decode cX6_addRule 68 = .ok (.aload_n 0, 1) := by decide +kernel
theorem dX6_addRule_69 : decode cX6_addRule 69 = .ok (.dup, 1) := by decide +kernel
theorem dX6_addRule_70 : decode cX6_addRule 70 = .ok (.getfield 52, 3) := by decide +kernel
theorem dX6_addRule_73 : decode cX6_addRule 73 = .ok (.iconst 1, 1) := by decide +kernel
theorem dX6_addRule_74 : decode cX6_addRule 74 = .ok (.iadd, 1) := by decide +kernel
theorem dX6_addRule_75 : decode cX6_addRule 75 = .ok (.putfield 52, 3) := by decide +kernel
theorem dX6_addRule_78 : decode cX6_addRule 78 = .ok (.aload_n 0, 1) := by decide +kernel
theorem dX6_addRule_79 : decode cX6_addRule 79 = .ok (.getfield 52, 3) := by decide +kernel
theorem dX6_addRule_82 : decode cX6_addRule 82 = .ok (.iconst 1, 1) := by decide +kernel
theorem dX6_addRule_83 : decode cX6_addRule 83 = .ok (.isub, 1) := by decide +kernel
theorem dX6_addRule_84 : decode cX6_addRule 84 = .ok (.ireturn, 1) := by decide +kernel
theorem dX6_addRule_41 : decode cX6_addRule 41 = .ok (.bipush (-6), 2) := by decide +kernel
theorem dX6_addRule_43 : decode cX6_addRule 43 = .ok (.ireturn, 1) := by decide +kernel
theorem dX6_addRule_9 : decode cX6_addRule 9 = .ok (.iconst (-1), 1) := by decide +kernel
theorem dX6_addRule_10 : decode cX6_addRule 10 = .ok (.ireturn, 1) := by decide +kernel
theorem dX6_takeRule_0 : decode cX6_takeRule 0 = .ok (.aload_n 0, 1) := by decide +kernel
theorem dX6_takeRule_1 : decode cX6_takeRule 1 = .ok (.iload_n 1, 1) := by decide +kernel
theorem dX6_takeRule_2 : decode cX6_takeRule 2 = .ok (.invokevirtual 108, 3) := by decide +kernel
theorem dX6_takeRule_5 : decode cX6_takeRule 5 = .ok (.ifCond .ne 5, 3) := by decide +kernel
theorem dX6_takeRule_10 : decode cX6_takeRule 10 = .ok (.aload_n 0, 1) := by decide +kernel
theorem dX6_takeRule_11 : decode cX6_takeRule 11 = .ok (.getfield 32, 3) := by decide +kernel
theorem dX6_takeRule_14 : decode cX6_takeRule 14 = .ok (.iload_n 1, 1) := by decide +kernel
theorem dX6_takeRule_15 : decode cX6_takeRule 15 = .ok (.invokevirtual 111, 3) := by decide +kernel
theorem dX6_takeRule_18 : decode cX6_takeRule 18 = .ok (.aload_n 0, 1) := by decide +kernel
theorem dX6_takeRule_19 : decode cX6_takeRule 19 = .ok (.getfield 35, 3) := by decide +kernel
theorem dX6_takeRule_22 : decode cX6_takeRule 22 = .ok (.iload_n 1, 1) := by decide +kernel
theorem dX6_takeRule_23 : decode cX6_takeRule 23 = .ok (.invokevirtual 111, 3) := by decide +kernel
theorem dX6_takeRule_26 : decode cX6_takeRule 26 = .ok (.aload_n 0, 1) := by decide +kernel
theorem dX6_takeRule_27 : decode cX6_takeRule 27 = .ok (.dup, 1) := by decide +kernel
theorem dX6_takeRule_28 : decode cX6_takeRule 28 = .ok (.getfield 52, 3) := by decide +kernel
theorem dX6_takeRule_31 : decode cX6_takeRule 31 = .ok (.iconst 1, 1) := by decide +kernel
theorem dX6_takeRule_32 : decode cX6_takeRule 32 = .ok (.isub, 1) := by decide +kernel
theorem dX6_takeRule_33 : decode cX6_takeRule 33 = .ok (.putfield 52, 3) := by decide +kernel
theorem dX6_takeRule_36 : decode cX6_takeRule 36 = .ok (.aload_n 0, 1) := by decide +kernel
theorem dX6_takeRule_37 : decode cX6_takeRule 37 = .ok (.getfield 52, 3) := by decide +kernel
theorem dX6_takeRule_40 : decode cX6_takeRule 40 = .ok (.ireturn, 1) := by decide +kernel
theorem dX6_takeRule_8 : decode cX6_takeRule 8 = .ok (.iconst (-1), 1) := by decide +kernel
theorem dX6_takeRule_9 : decode cX6_takeRule 9 = .ok (.ireturn, 1) := by decide +kernel
theorem dX6_addLimit_0 : decode cX6_addLimit 0 = .ok (.iload_n 1, 1) := by decide +kernel
theorem dX6_addLimit_1 : decode cX6_addLimit 1 = .ok (.iconst 1, 1) := by decide +kernel
theorem dX6_addLimit_2 : decode cX6_addLimit 2 = .ok (.if_icmp .ge 6, 3) := by decide +kernel
theorem dX6_addLimit_8 : decode cX6_addLimit 8 = .ok (.iload_n 1, 1) := by decide +kernel
theorem dX6_addLimit_9 : decode cX6_addLimit 9 = .ok (.bipush 99, 2) := by decide +kernel
theorem dX6_addLimit_11 : decode cX6_addLimit 11 = .ok (.if_icmp .gt 11, 3) := by decide +kernel
theorem dX6_addLimit_22 : decode cX6_addLimit 22 = .ok (.bipush (-6), 2) := by decide +kernel
theorem dX6_addLimit_24 : decode cX6_addLimit 24 = .ok (.ireturn, 1) := by decide +kernel
theorem dX6_addLimit_14 : decode cX6_addLimit 14 = .ok (.aload_n 0, 1) := by decide +kernel
theorem dX6_addLimit_15 : decode cX6_addLimit 15 = .ok (.getfield 55, 3) := by decide +kernel
theorem dX6_addLimit_18 : decode cX6_addLimit 18 = .ok (.iconst 5, 1) := by decide +kernel
theorem dX6_addLimit_19 : decode cX6_addLimit 19 = .ok (.if_icmp .lt 6, 3) := by decide +kernel
theorem dX6_addLimit_25 : decode cX6_addLimit 25 = .ok (.aload_n 0, 1) := by decide +kernel
theorem dX6_addLimit_26 : decode cX6_addLimit 26 = .ok (.getfield 55, 3) := by decide +kernel
theorem dX6_addLimit_52 : decode cX6_addLimit 52 = .ok (.aload_n 0, 1) := by decide +kernel
theorem dX6_addLimit_53 : decode cX6_addLimit 53 = .ok (.getfield 38, 3) := by decide +kernel
theorem dX6_addLimit_56 : decode cX6_addLimit 56 = .ok (.aload_n 0, 1) := by decide +kernel
theorem dX6_addLimit_57 : decode cX6_addLimit 57 = .ok (.getfield 55, 3) := by decide +kernel
theorem dX6_addLimit_60 : decode cX6_addLimit 60 = .ok (.iload_n 1, 1) := by decide +kernel
theorem dX6_addLimit_61 : decode cX6_addLimit 61 = .ok (.invokevirtual 91, 3) := by decide +kernel
theorem dX6_addLimit_64 : decode cX6_addLimit 64 = .ok (.aload_n 0, 1) := by decide +kernel
theorem dX6_addLimit_65 : decode cX6_addLimit 65 = .ok (.dup, 1) := by decide +kernel
theorem dX6_addLimit_66 : decode cX6_addLimit 66 = .ok (.getfield 55, 3) := by decide +kernel
theorem dX6_addLimit_69 : decode cX6_addLimit 69 = .ok (.iconst 1, 1) := by decide +kernel
theorem dX6_addLimit_70 : decode cX6_addLimit 70 = .ok (.iadd, 1) := by decide +kernel
theorem dX6_addLimit_71 : decode cX6_addLimit 71 = .ok (.putfield 55, 3) := by decide +kernel
theorem dX6_addLimit_74 : decode cX6_addLimit 74 = .ok (.aload_n 0, 1) := by decide +kernel
theorem dX6_addLimit_75 : decode cX6_addLimit 75 = .ok (.getfield 55, 3) := by decide +kernel
theorem dX6_addLimit_78 : decode cX6_addLimit 78 = .ok (.ireturn, 1) := by decide +kernel
theorem dX6_addLimit_29 : decode cX6_addLimit 29 = .ok (.ifCond .le 23, 3) := by decide +kernel
theorem dX6_addLimit_32 : decode cX6_addLimit 32 = .ok (.iload_n 1, 1) := by decide +kernel
theorem dX6_addLimit_33 : decode cX6_addLimit 33 = .ok (.aload_n 0, 1) := by decide +kernel
theorem dX6_addLimit_34 : decode cX6_addLimit 34 = .ok (.getfield 38, 3) := by decide +kernel
theorem dX6_addLimit_37 : decode cX6_addLimit 37 = .ok (.aload_n 0, 1) := by decide +kernel
theorem dX6_addLimit_38 : decode cX6_addLimit 38 = .ok (.getfield 55, 3) := by decide +kernel
theorem dX6_addLimit_41 : decode cX6_addLimit 41 = .ok (.iconst 1, 1) := by decide +kernel
theorem dX6_addLimit_42 : decode cX6_addLimit 42 = .ok (.isub, 1) := by decide +kernel
theorem dX6_addLimit_43 : decode cX6_addLimit 43 = .ok (.invokevirtual 65, 3) := by decide +kernel
theorem dX6_addLimit_46 : decode cX6_addLimit 46 = .ok (.if_icmp .gt 6, 3) := by decide +kernel
theorem dX6_addLimit_49 : decode cX6_addLimit 49 = .ok (.bipush (-3), 2) := by decide +kernel
theorem dX6_addLimit_51 : decode cX6_addLimit 51 = .ok (.ireturn, 1) := by decide +kernel
theorem dX6_addLimit_5 : decode cX6_addLimit 5 = .ok (.bipush (-4), 2) := by decide +kernel
theorem dX6_addLimit_7 : decode cX6_addLimit 7 = .ok (.ireturn, 1) := by decide +kernel
theorem dX6_takeLimits_0 : decode cX6_takeLimits 0 = .ok (.aload_n 0, 1) := by decide +kernel
theorem dX6_takeLimits_1 : decode cX6_takeLimits 1 = .ok (.getfield 55, 3) := by decide +kernel
theorem dX6_takeLimits_4 : decode cX6_takeLimits 4 = .ok (.istore_n 1, 1) := by decide +kernel
theorem dX6_takeLimits_5 : decode cX6_takeLimits 5 = .ok (.aload_n 0, 1) := by decide +kernel
theorem dX6_takeLimits_6 : decode cX6_takeLimits 6 = .ok (.iconst 0, 1) := by decide +kernel
theorem dX6_takeLimits_7 : decode cX6_takeLimits 7 = .ok (.putfield 55, 3) := by decide +kernel
theorem dX6_takeLimits_10 : decode cX6_takeLimits 10 = .ok (.iload_n 1, 1) := by decide +kernel
theorem dX6_takeLimits_11 : decode cX6_takeLimits 11 = .ok (.ireturn, 1) := by decide +kernel
set_option maxHeartbeats 4000000 in
set_option maxRecDepth 100000 in
theorem c_X6_swap_0_0_9 (l : Launch) (g : GG) (a0 : Nat → Nat) (s0 : T6) (p2 : Int32) (p3 : Int32) (p4 : Int32) (p5 : Int32) (hne : (m_X6_swap_0_0_9 s0 p2 p3 p4 p5) ≠ none) : Ct l g yX6_swap cX6_swap 7 (some .int) ({ frames := 1, cells := 0, slots := 0, locals := 22 } : Room) [.ref (a0 0), .ref (a0 9), .int p2, .int p3, .int p4, .int p5] (wX6 a0 g s0) (Qi g .int (m_X6_swap_0_0_9 s0 p2 p3 p4 p5) (fun u => u.1) (fun u => wX6 a0 g ((p6_raws s0), (p6_kinds s0), (p6_figures s0), (p6_heavies s0), u.2, (p6_papers s0), (p6_lowers s0), (p6_uppers s0), (p6_rules s0), (p6_bounds s0), (p6_boundCount s0), (p6_tieWay s0), (p6_reached s0)))) 0 0 := by
  obtain ⟨out, hf⟩ := ne_ex hne
  have hf0 := hf
  refine Ct.of (own := RX6) (by decide +kernel) rfl (Nat.le_of_ble_eq_true rfl) ?_
  intro p e s m below meth c hx hb hr hml hown hts hlocks hin hK A H locs hA hP hD hS ls hl
  have hl : lv_has ls 7 [(0, .ref (a0 0)), (1, .ref (a0 9)), (2, .int p2), (3, .int p3), (4, .int p4), (5, .int p5)] := hl
  unfold m_X6_swap_0_0_9 at hf
  refine lv_aload_n hx hb dX6_swap_0 rfl (lv_at hl 0 rfl) ?_
  refine lv_iload_n hx hb dX6_swap_1 rfl (lv_at hl 2 rfl) ?_
  refine cIp hP hD hS hA (fun hPc hDc => rV (As := [.int p2]) (rest := []) hx hb hml hown hts hK (c_X6_hasPaper l g a0 s0 p2 (bnd_ne hf)) svV_X6_hasPaper kw413 rfl rfl hPc hDc rfl rfl hl.1 (Nat.le_of_ble_eq_true rfl) dX6_swap_2 ⟨Nat.le_of_ble_eq_true rfl, Nat.le_of_ble_eq_true rfl, rfl, rfl, Nat.le_of_ble_eq_true rfl, Nat.le_of_ble_eq_true rfl⟩) [(0, 19)] rfl rfl rfl (fun x1 H locs ex1 nx1 hP hS => ?_)
  have hf := bnd_of hf ex1
  refine lv_if_ne (tgt := 10) hx hb dX6_swap_5 (by decide) (fun cb => ?_) (fun cb => ?_)
  · have hf := it_f cb hf
    refine lv_iload_n hx hb dX6_swap_10 rfl (lv_at hl 3 rfl) ?_
    refine lv_iload hx hb dX6_swap_11 (lv_at hl 4 rfl) ?_
    refine lv_icmp_ge (tgt := 19) hx hb dX6_swap_13 (by decide) (fun cb => ?_) (fun cb => ?_)
    · have hf := it_t cb hf
      refine lv_iload_n hx hb dX6_swap_19 rfl (lv_at hl 3 rfl) ?_
      refine lv_iload hx hb dX6_swap_20 (lv_at hl 5 rfl) ?_
      refine lv_icmp_le (tgt := 28) hx hb dX6_swap_22 (by decide) (fun cb => ?_) (fun cb => ?_)
      · have hf := it_t cb hf
        refine lv_aload_n hx hb dX6_swap_28 rfl (lv_at hl 1 rfl) ?_
        refine lv_iload_n hx hb dX6_swap_29 rfl (lv_at hl 2 rfl) ?_
        refine cIp hP hD hS hA (fun hPc hDc => rV (As := [.int p2]) (rest := []) hx hb hml hown hts hK (c_X2_get l g (fun i => a0 (i + 9)) 7 (p6_places s0) p2 (bnd_ne hf)) svV_X2_get kw417 rfl rfl hPc hDc rfl rfl hl.1 (Nat.le_of_ble_eq_true rfl) dX6_swap_30 ⟨Nat.le_of_ble_eq_true rfl, Nat.le_of_ble_eq_true rfl, rfl, rfl, Nat.le_of_ble_eq_true rfl, Nat.le_of_ble_eq_true rfl⟩) [(9, 2)] rfl rfl rfl (fun x2 H locs ex2 nx2 hP hS => ?_)
        have hf := bnd_of hf ex2
        refine lv_istore (lv' := [(6, .int x2), (0, .ref (a0 0)), (1, .ref (a0 9)), (2, .int p2), (3, .int p3), (4, .int p4), (5, .int p5)]) hx hb dX6_swap_33 hl (by decide) rfl (fun ls hl => ?_)
        refine lv_aload_n hx hb dX6_swap_35 rfl (lv_at hl 2 rfl) ?_
        refine lv_iload_n hx hb dX6_swap_36 rfl (lv_at hl 3 rfl) ?_
        refine lv_iload_n hx hb dX6_swap_37 rfl (lv_at hl 4 rfl) ?_
        refine cV hP hD hS hA (fun hPc hDc => rV (As := [.int p2, .int p3]) (rest := []) hx hb hml hown hts hK (c_X2_set l g (fun i => a0 (i + 9)) 7 (p6_places s0) p2 p3 (bnd_ne hf)) svV_X2_set kw408 rfl rfl hPc hDc rfl rfl hl.1 (Nat.le_of_ble_eq_true rfl) dX6_swap_38 ⟨Nat.le_of_ble_eq_true rfl, Nat.le_of_ble_eq_true rfl, rfl, rfl, Nat.le_of_ble_eq_true rfl, Nat.le_of_ble_eq_true rfl⟩) [(9, 2)] rfl rfl rfl (fun _ => rfl) (fun x3 H locs ex3 hP hD hS => ?_)
        have hf := bnd_of hf ex3
        have hP : va_P g.1 vwCl (wX6 a0 g ((p6_raws s0), (p6_kinds s0), (p6_figures s0), (p6_heavies s0), x3, (p6_papers s0), (p6_lowers s0), (p6_uppers s0), (p6_rules s0), (p6_bounds s0), (p6_boundCount s0), (p6_tieWay s0), (p6_reached s0))) H := hP
        have hD : va_D A (wX6 a0 g ((p6_raws s0), (p6_kinds s0), (p6_figures s0), (p6_heavies s0), x3, (p6_papers s0), (p6_lowers s0), (p6_uppers s0), (p6_rules s0), (p6_bounds s0), (p6_boundCount s0), (p6_tieWay s0), (p6_reached s0))) := hD
        refine lv_iload hx hb dX6_swap_41 (lv_at hl 0 rfl) ?_
        exact retI (u := (x2, x3)) hx hb hr hlocks hS hP hD (hf0.trans hf.symm) rfl rfl dX6_swap_43
      have hf := it_f cb hf
      refine lv_bipush (v := (-6)) hx hb dX6_swap_25 (by decide) ?_
      exact retI (u := ((-6 : Int32), (p6_places s0))) hx hb hr hlocks hS hP hD (hf0.trans hf.symm) rfl rfl dX6_swap_27
    have hf := it_f cb hf
    refine lv_bipush (v := (-4)) hx hb dX6_swap_16 (by decide) ?_
    exact retI (u := ((-4 : Int32), (p6_places s0))) hx hb hr hlocks hS hP hD (hf0.trans hf.symm) rfl rfl dX6_swap_18
  have hf := it_t cb hf
  refine lv_iconst (v := (-1)) hx hb dX6_swap_8 (by decide) ?_
  exact retI (u := ((-1 : Int32), (p6_places s0))) hx hb hr hlocks hS hP hD (hf0.trans hf.symm) rfl rfl dX6_swap_9
set_option maxHeartbeats 4000000 in
set_option maxRecDepth 100000 in
theorem c_X6_setPlace (l : Launch) (g : GG) (a0 : Nat → Nat) (s0 : T6) (p1 : Int32) (p2 : Int32) (hne : (m_X6_setPlace s0 p1 p2) ≠ none) : Ct l g yX6_setPlace cX6_setPlace 3 (some .int) ({ frames := 2, cells := 0, slots := 0, locals := 48 } : Room) [.ref (a0 0), .int p1, .int p2] (wX6 a0 g s0) (Qi g .int (m_X6_setPlace s0 p1 p2) (fun u => u.1) (fun u => wX6 a0 g ((p6_raws s0), (p6_kinds s0), (p6_figures s0), (p6_heavies s0), u.2, (p6_papers s0), (p6_lowers s0), (p6_uppers s0), (p6_rules s0), (p6_bounds s0), (p6_boundCount s0), (p6_tieWay s0), (p6_reached s0)))) 0 0 := by
  obtain ⟨out, hf⟩ := ne_ex hne
  have hf0 := hf
  refine Ct.of (own := RX6) (by decide +kernel) rfl (Nat.le_of_ble_eq_true rfl) ?_
  intro p e s m below meth c hx hb hr hml hown hts hlocks hin hK A H locs hA hP hD hS ls hl
  have hl : lv_has ls 3 [(0, .ref (a0 0)), (1, .int p1), (2, .int p2)] := hl
  unfold m_X6_setPlace at hf
  refine lv_aload_n hx hb dX6_setPlace_0 rfl (lv_at hl 0 rfl) ?_
  refine lv_aload_n hx hb dX6_setPlace_1 rfl (lv_at hl 0 rfl) ?_
  refine va_get (D := g.1) (ci := 7) (v := .ref (a0 9)) (C := RX6) (T := TX6) (N := 13) hx hb hts layX6 hown hK.1 hP 0 rfl rfl 4 (by decide) (hts _ kw53) (fun _ h9 => h9) rfl dX6_setPlace_2 ?_
  refine lv_iload_n hx hb dX6_setPlace_5 rfl (lv_at hl 1 rfl) ?_
  refine lv_iload_n hx hb dX6_setPlace_6 rfl (lv_at hl 2 rfl) ?_
  refine lv_iconst (v := 0) hx hb dX6_setPlace_7 (by decide) ?_
  refine lv_bipush (v := 9) hx hb dX6_setPlace_8 (by decide) ?_
  refine cI hP hD hS hA (fun hPc hDc => rV (As := [.ref (a0 9), .int p1, .int p2, .int (0 : Int32), .int (9 : Int32)]) (rest := []) hx hb hml hown hts hK (c_X6_swap_0_0_9 l g a0 s0 p1 p2 (0 : Int32) (9 : Int32) (bnd_ne hf)) svV_X6_swap kw422 rfl rfl hPc hDc rfl rfl hl.1 (Nat.le_of_ble_eq_true rfl) dX6_setPlace_10 ⟨Nat.le_of_ble_eq_true rfl, Nat.le_of_ble_eq_true rfl, rfl, rfl, Nat.le_of_ble_eq_true rfl, Nat.le_of_ble_eq_true rfl⟩) [(0, 19)] rfl rfl rfl (fun _ => rfl) (fun x1 H locs ex1 nx1 hP hD hS => ?_)
  have hf := bnd_of hf ex1
  have hP : va_P g.1 vwCl (wX6 a0 g ((p6_raws s0), (p6_kinds s0), (p6_figures s0), (p6_heavies s0), x1.2, (p6_papers s0), (p6_lowers s0), (p6_uppers s0), (p6_rules s0), (p6_bounds s0), (p6_boundCount s0), (p6_tieWay s0), (p6_reached s0))) H := hP
  have hD : va_D A (wX6 a0 g ((p6_raws s0), (p6_kinds s0), (p6_figures s0), (p6_heavies s0), x1.2, (p6_papers s0), (p6_lowers s0), (p6_uppers s0), (p6_rules s0), (p6_bounds s0), (p6_boundCount s0), (p6_tieWay s0), (p6_reached s0))) := hD
  exact retI (u := (x1.1, x1.2)) hx hb hr hlocks hS hP hD (hf0.trans hf.symm) rfl rfl dX6_setPlace_13
set_option maxHeartbeats 4000000 in
set_option maxRecDepth 100000 in
theorem c_X6_swap (l : Launch) (g : GG) (a0 : Nat → Nat) (s0 : T6) (a1 : Nat → Nat) (n1 : Nat) (s1 : T2) (p2 : Int32) (p3 : Int32) (p4 : Int32) (p5 : Int32) (hne : (m_X6_swap s0 n1 s1 p2 p3 p4 p5) ≠ none) : Ct l g yX6_swap cX6_swap 7 (some .int) ({ frames := 1, cells := 0, slots := 0, locals := 22 } : Room) [.ref (a0 0), .ref (a1 0), .int p2, .int p3, .int p4, .int p5] (wX6 a0 g s0 ++ wX2 a1 g n1 s1) (Qi g .int (m_X6_swap s0 n1 s1 p2 p3 p4 p5) (fun u => u.1) (fun u => wX6 a0 g s0 ++ wX2 a1 g n1 u.2)) 0 0 := by
  obtain ⟨out, hf⟩ := ne_ex hne
  have hf0 := hf
  refine Ct.of (own := RX6) (by decide +kernel) rfl (Nat.le_of_ble_eq_true rfl) ?_
  intro p e s m below meth c hx hb hr hml hown hts hlocks hin hK A H locs hA hP hD hS ls hl
  have hl : lv_has ls 7 [(0, .ref (a0 0)), (1, .ref (a1 0)), (2, .int p2), (3, .int p3), (4, .int p4), (5, .int p5)] := hl
  unfold m_X6_swap at hf
  refine lv_aload_n hx hb dX6_swap_0 rfl (lv_at hl 0 rfl) ?_
  refine lv_iload_n hx hb dX6_swap_1 rfl (lv_at hl 2 rfl) ?_
  refine cIp hP hD hS hA (fun hPc hDc => rV (As := [.int p2]) (rest := []) hx hb hml hown hts hK (c_X6_hasPaper l g a0 s0 p2 (bnd_ne hf)) svV_X6_hasPaper kw413 rfl rfl hPc hDc rfl rfl hl.1 (Nat.le_of_ble_eq_true rfl) dX6_swap_2 ⟨Nat.le_of_ble_eq_true rfl, Nat.le_of_ble_eq_true rfl, rfl, rfl, Nat.le_of_ble_eq_true rfl, Nat.le_of_ble_eq_true rfl⟩) [(0, 19)] rfl rfl rfl (fun x1 H locs ex1 nx1 hP hS => ?_)
  have hf := bnd_of hf ex1
  refine lv_if_ne (tgt := 10) hx hb dX6_swap_5 (by decide) (fun cb => ?_) (fun cb => ?_)
  · have hf := it_f cb hf
    refine lv_iload_n hx hb dX6_swap_10 rfl (lv_at hl 3 rfl) ?_
    refine lv_iload hx hb dX6_swap_11 (lv_at hl 4 rfl) ?_
    refine lv_icmp_ge (tgt := 19) hx hb dX6_swap_13 (by decide) (fun cb => ?_) (fun cb => ?_)
    · have hf := it_t cb hf
      refine lv_iload_n hx hb dX6_swap_19 rfl (lv_at hl 3 rfl) ?_
      refine lv_iload hx hb dX6_swap_20 (lv_at hl 5 rfl) ?_
      refine lv_icmp_le (tgt := 28) hx hb dX6_swap_22 (by decide) (fun cb => ?_) (fun cb => ?_)
      · have hf := it_t cb hf
        refine lv_aload_n hx hb dX6_swap_28 rfl (lv_at hl 1 rfl) ?_
        refine lv_iload_n hx hb dX6_swap_29 rfl (lv_at hl 2 rfl) ?_
        refine cIp hP hD hS hA (fun hPc hDc => rV (As := [.int p2]) (rest := []) hx hb hml hown hts hK (c_X2_get l g a1 n1 s1 p2 (bnd_ne hf)) svV_X2_get kw417 rfl rfl hPc hDc rfl rfl hl.1 (Nat.le_of_ble_eq_true rfl) dX6_swap_30 ⟨Nat.le_of_ble_eq_true rfl, Nat.le_of_ble_eq_true rfl, rfl, rfl, Nat.le_of_ble_eq_true rfl, Nat.le_of_ble_eq_true rfl⟩) [(19, 2)] rfl rfl rfl (fun x2 H locs ex2 nx2 hP hS => ?_)
        have hf := bnd_of hf ex2
        refine lv_istore (lv' := [(6, .int x2), (0, .ref (a0 0)), (1, .ref (a1 0)), (2, .int p2), (3, .int p3), (4, .int p4), (5, .int p5)]) hx hb dX6_swap_33 hl (by decide) rfl (fun ls hl => ?_)
        refine lv_aload_n hx hb dX6_swap_35 rfl (lv_at hl 2 rfl) ?_
        refine lv_iload_n hx hb dX6_swap_36 rfl (lv_at hl 3 rfl) ?_
        refine lv_iload_n hx hb dX6_swap_37 rfl (lv_at hl 4 rfl) ?_
        refine cV hP hD hS hA (fun hPc hDc => rV (As := [.int p2, .int p3]) (rest := []) hx hb hml hown hts hK (c_X2_set l g a1 n1 s1 p2 p3 (bnd_ne hf)) svV_X2_set kw408 rfl rfl hPc hDc rfl rfl hl.1 (Nat.le_of_ble_eq_true rfl) dX6_swap_38 ⟨Nat.le_of_ble_eq_true rfl, Nat.le_of_ble_eq_true rfl, rfl, rfl, Nat.le_of_ble_eq_true rfl, Nat.le_of_ble_eq_true rfl⟩) [(19, 2)] rfl rfl rfl (fun _ => rfl) (fun x3 H locs ex3 hP hD hS => ?_)
        have hf := bnd_of hf ex3
        have hP : va_P g.1 vwCl (wX6 a0 g s0 ++ wX2 a1 g n1 x3) H := hP
        have hD : va_D A (wX6 a0 g s0 ++ wX2 a1 g n1 x3) := hD
        refine lv_iload hx hb dX6_swap_41 (lv_at hl 0 rfl) ?_
        exact retI (u := (x2, x3)) hx hb hr hlocks hS hP hD (hf0.trans hf.symm) rfl rfl dX6_swap_43
      have hf := it_f cb hf
      refine lv_bipush (v := (-6)) hx hb dX6_swap_25 (by decide) ?_
      exact retI (u := ((-6 : Int32), s1)) hx hb hr hlocks hS hP hD (hf0.trans hf.symm) rfl rfl dX6_swap_27
    have hf := it_f cb hf
    refine lv_bipush (v := (-4)) hx hb dX6_swap_16 (by decide) ?_
    exact retI (u := ((-4 : Int32), s1)) hx hb hr hlocks hS hP hD (hf0.trans hf.symm) rfl rfl dX6_swap_18
  have hf := it_t cb hf
  refine lv_iconst (v := (-1)) hx hb dX6_swap_8 (by decide) ?_
  exact retI (u := ((-1 : Int32), s1)) hx hb hr hlocks hS hP hD (hf0.trans hf.symm) rfl rfl dX6_swap_9
set_option maxHeartbeats 4000000 in
set_option maxRecDepth 100000 in
theorem c_X6_isThere (l : Launch) (g : GG) (a0 : Nat → Nat) (s0 : T6) (p1 : Int32) (p2 : Int32) (hne : (m_X6_isThere s0 p1 p2) ≠ none) : Ct l g yX6_isThere cX6_isThere 4 (some .boolean) ({ frames := 1, cells := 0, slots := 0, locals := 21 } : Room) [.ref (a0 0), .int p1, .int p2] (wX6 a0 g s0) (Qi g .boolean (m_X6_isThere s0 p1 p2) (fun u => u) (fun u => wX6 a0 g s0)) 0 0 := by
  obtain ⟨out, hf⟩ := ne_ex hne
  have hf0 := hf
  refine Ct.of (own := RX6) (by decide +kernel) rfl (Nat.le_of_ble_eq_true rfl) ?_
  intro p e s m below meth c hx hb hr hml hown hts hlocks hin hK A H locs hA hP hD hS ls hl
  have hl : lv_has ls 4 [(0, .ref (a0 0)), (1, .int p1), (2, .int p2)] := hl
  unfold m_X6_isThere at hf
  refine lv_iconst (v := 0) hx hb dX6_isThere_0 (by decide) ?_
  refine lv_istore_n (lv' := [(3, .int (0 : Int32)), (0, .ref (a0 0)), (1, .int p1), (2, .int p2)]) hx hb dX6_isThere_1 rfl hl (by decide) rfl (fun ls hl => ?_)
  obtain ⟨r6, er6, hf⟩ := bnd hf
  refine lp_W (P := fun z => ∀ (H : Heap) (locs : List Loc) (ls : Array Slot), va_P g.1 vwCl (wX6 a0 g s0) H → va_D A (wX6 a0 g s0) → va_S A s.heap H locs → lv_has ls 4 [(0, .ref (a0 0)), (1, .int p1), (2, .int p2), (3, .int z)] → W p l e { frames := 1, cells := 0, slots := 0, locals := 21 } s m [.ref (a0 0), .int p1, .int p2].toArray below meth c H locs 0 0 (MQ below (Qi g .boolean (m_X6_isThere s0 p1 p2) (fun u => u) (fun u => wX6 a0 g s0) A) [.ref (a0 0), .int p1, .int p2].toArray s 0 0 A) (F0 m 2 ls [])) (E := fun r6 => match r6 with | .inl x7 => (∀ (H : Heap) (locs : List Loc) (ls : Array Slot), va_P g.1 vwCl (wX6 a0 g s0) H → va_D A (wX6 a0 g s0) → va_S A s.heap H locs → lv_has ls 4 [] → W p l e { frames := 1, cells := 0, slots := 0, locals := 21 } s m [.ref (a0 0), .int p1, .int p2].toArray below meth c H locs 0 0 (MQ below (Qi g .boolean (m_X6_isThere s0 p1 p2) (fun u => u) (fun u => wX6 a0 g s0) A) [.ref (a0 0), .int p1, .int p2].toArray s 0 0 A) (F0 m 34 ls [])) | .inr x8 => (∀ (H : Heap) (locs : List Loc) (ls : Array Slot), va_P g.1 vwCl (wX6 a0 g s0) H → va_D A (wX6 a0 g s0) → va_S A s.heap H locs → lv_has ls 4 [] → W p l e { frames := 1, cells := 0, slots := 0, locals := 21 } s m [.ref (a0 0), .int p1, .int p2].toArray below meth c H locs 0 0 (MQ below (Qi g .boolean (m_X6_isThere s0 p1 p2) (fun u => u) (fun u => wX6 a0 g s0) A) [.ref (a0 0), .int p1, .int p2].toArray s 0 0 A) (F0 m 42 ls []))) ?_ fu _ r6 er6 ?_ _ _ _ hP hD hS (lv_sub hl [1, 2, 3, 0] rfl)
  · rintro x3 y hf hB hE H locs ls hP hD hS hl
    have hP : va_P g.1 vwCl (wX6 a0 g s0) H := hP
    have hD : va_D A (wX6 a0 g s0) := hD
    have hl : lv_has ls 4 [(0, .ref (a0 0)), (1, .int p1), (2, .int p2), (3, .int x3)] := hl
    have hf : m_X6_isThere_l2 s0 p1 p2 x3 = some y := hf
    unfold m_X6_isThere_l2 at hf
    refine lv_iload_n hx hb dX6_isThere_2 rfl (lv_at hl 3 rfl) ?_
    refine lv_aload_n hx hb dX6_isThere_3 rfl (lv_at hl 0 rfl) ?_
    refine va_get (D := g.1) (ci := 7) (v := .int (p6_rules s0)) (C := RX6) (T := TX6) (N := 13) hx hb hts layX6 hown hK.1 hP 0 rfl rfl 8 (by decide) (hts _ kw57) (fun _ h9 => h9) rfl dX6_isThere_4 ?_
    refine lv_icmp_ge (tgt := 42) hx hb dX6_isThere_7 (by decide) (fun cb => ?_) (fun cb => ?_)
    · have hf := it_t cb hf
      exact hE _ (Option.some.inj hf).symm _ _ _ hP hD hS (lv_sub hl [] rfl)
    have hf := it_f cb hf
    refine lv_aload_n hx hb dX6_isThere_10 rfl (lv_at hl 0 rfl) ?_
    refine va_get (D := g.1) (ci := 7) (v := .ref (a0 11)) (C := RX6) (T := TX6) (N := 13) hx hb hts layX6 hown hK.1 hP 0 rfl rfl 6 (by decide) (hts _ kw55) (fun _ h9 => h9) rfl dX6_isThere_11 ?_
    refine lv_iload_n hx hb dX6_isThere_14 rfl (lv_at hl 3 rfl) ?_
    refine cIp hP hD hS hA (fun hPc hDc => rV (As := [.int x3]) (rest := []) hx hb hml hown hts hK (c_X2_get l g (fun i => a0 (i + 11)) 12 (p6_lowers s0) x3 (bnd_ne hf)) svV_X2_get kw417 rfl rfl hPc hDc rfl rfl hl.1 (Nat.le_of_ble_eq_true rfl) dX6_isThere_15 ⟨Nat.le_of_ble_eq_true rfl, Nat.le_of_ble_eq_true rfl, rfl, rfl, Nat.le_of_ble_eq_true rfl, Nat.le_of_ble_eq_true rfl⟩) [(11, 2)] rfl rfl rfl (fun x4 H locs ex4 nx4 hP hS => ?_)
    have hf := bnd_of hf ex4
    refine lv_iload_n hx hb dX6_isThere_18 rfl (lv_at hl 1 rfl) ?_
    refine lv_icmp_ne (tgt := 36) hx hb dX6_isThere_19 (by decide) (fun cb => ?_) (fun cb => ?_)
    · have hf := it_f cb hf
      refine lv_iinc (v := (x3 + 1)) (lv' := [(3, .int (x3 + 1)), (0, .ref (a0 0)), (1, .int p1), (2, .int p2)]) hx hb dX6_isThere_36 hl (k := 3) rfl (by rfl) (by decide) rfl (fun ls hl => ?_)
      refine lv_goto (tgt := 2) hx hb dX6_isThere_39 (by decide) ?_
      exact hB _ (Option.some.inj hf).symm _ _ _ hP hD hS (lv_sub hl [1, 2, 3, 0] rfl)
    have hf := it_t cb hf
    refine lv_aload_n hx hb dX6_isThere_22 rfl (lv_at hl 0 rfl) ?_
    refine va_get (D := g.1) (ci := 7) (v := .ref (a0 13)) (C := RX6) (T := TX6) (N := 13) hx hb hts layX6 hown hK.1 hP 0 rfl rfl 7 (by decide) (hts _ kw56) (fun _ h9 => h9) rfl dX6_isThere_23 ?_
    refine lv_iload_n hx hb dX6_isThere_26 rfl (lv_at hl 3 rfl) ?_
    refine cIp hP hD hS hA (fun hPc hDc => rV (As := [.int x3]) (rest := []) hx hb hml hown hts hK (c_X2_get l g (fun i => a0 (i + 13)) 12 (p6_uppers s0) x3 (bnd_ne hf)) svV_X2_get kw417 rfl rfl hPc hDc rfl rfl hl.1 (Nat.le_of_ble_eq_true rfl) dX6_isThere_27 ⟨Nat.le_of_ble_eq_true rfl, Nat.le_of_ble_eq_true rfl, rfl, rfl, Nat.le_of_ble_eq_true rfl, Nat.le_of_ble_eq_true rfl⟩) [(13, 2)] rfl rfl rfl (fun x5 H locs ex5 nx5 hP hS => ?_)
    have hf := bnd_of hf ex5
    refine lv_iload_n hx hb dX6_isThere_30 rfl (lv_at hl 2 rfl) ?_
    refine lv_icmp_ne (tgt := 36) hx hb dX6_isThere_31 (by decide) (fun cb => ?_) (fun cb => ?_)
    · have hf := it_f cb hf
      refine lv_iinc (v := (x3 + 1)) (lv' := [(3, .int (x3 + 1)), (0, .ref (a0 0)), (1, .int p1), (2, .int p2)]) hx hb dX6_isThere_36 hl (k := 3) rfl (by rfl) (by decide) rfl (fun ls hl => ?_)
      refine lv_goto (tgt := 2) hx hb dX6_isThere_39 (by decide) ?_
      exact hB _ (Option.some.inj hf).symm _ _ _ hP hD hS (lv_sub hl [1, 2, 3, 0] rfl)
    have hf := it_t cb hf
    exact hE _ (Option.some.inj hf).symm _ _ _ hP hD hS (lv_sub hl [] rfl)
  rcases r6 with x7 | x8
  · intro H locs ls hP hD hS hl
    have hP : va_P g.1 vwCl (wX6 a0 g s0) H := hP
    have hD : va_D A (wX6 a0 g s0) := hD
    have hl : lv_has ls 4 [] := hl
    refine lv_iconst (v := 1) hx hb dX6_isThere_34 (by decide) ?_
    exact retI (u := (1 : Int32)) hx hb hr hlocks hS hP hD (hf0.trans hf.symm) rfl rfl dX6_isThere_35
  · intro H locs ls hP hD hS hl
    have hP : va_P g.1 vwCl (wX6 a0 g s0) H := hP
    have hD : va_D A (wX6 a0 g s0) := hD
    have hl : lv_has ls 4 [] := hl
    refine lv_iconst (v := 0) hx hb dX6_isThere_42 (by decide) ?_
    exact retI (u := (0 : Int32)) hx hb hr hlocks hS hP hD (hf0.trans hf.symm) rfl rfl dX6_isThere_43
set_option maxHeartbeats 4000000 in
set_option maxRecDepth 100000 in
theorem c_X6_addRule (l : Launch) (g : GG) (a0 : Nat → Nat) (s0 : T6) (p1 : Int32) (p2 : Int32) (hne : (m_X6_addRule s0 p1 p2) ≠ none) : Ct l g yX6_addRule cX6_addRule 3 (some .int) ({ frames := 3, cells := 0, slots := 0, locals := 72 } : Room) [.ref (a0 0), .int p1, .int p2] (wX6 a0 g s0) (Qi g .int (m_X6_addRule s0 p1 p2) (fun u => u.1) (fun u => wX6 a0 g ((p6_raws s0), (p6_kinds s0), (p6_figures s0), (p6_heavies s0), (p6_places s0), (p6_papers s0), u.2.1, u.2.2.1, u.2.2.2.1, (p6_bounds s0), (p6_boundCount s0), (p6_tieWay s0), u.2.2.2.2))) 0 0 := by
  obtain ⟨out, hf⟩ := ne_ex hne
  have hf0 := hf
  refine Ct.of (own := RX6) (by decide +kernel) rfl (Nat.le_of_ble_eq_true rfl) ?_
  intro p e s m below meth c hx hb hr hml hown hts hlocks hin hK A H locs hA hP hD hS ls hl
  have hl : lv_has ls 3 [(0, .ref (a0 0)), (1, .int p1), (2, .int p2)] := hl
  unfold m_X6_addRule at hf
  refine lv_aload_n hx hb dX6_addRule_0 rfl (lv_at hl 0 rfl) ?_
  refine lv_iload_n hx hb dX6_addRule_1 rfl (lv_at hl 1 rfl) ?_
  refine lv_iload_n hx hb dX6_addRule_2 rfl (lv_at hl 2 rfl) ?_
  refine cIp hP hD hS hA (fun hPc hDc => rV (As := [.int p1, .int p2]) (rest := []) hx hb hml hown hts hK (c_X6_areTwo l g a0 s0 p1 p2 (bnd_ne hf)) svV_X6_areTwo kw433 rfl rfl hPc hDc rfl rfl hl.1 (Nat.le_of_ble_eq_true rfl) dX6_addRule_3 ⟨Nat.le_of_ble_eq_true rfl, Nat.le_of_ble_eq_true rfl, rfl, rfl, Nat.le_of_ble_eq_true rfl, Nat.le_of_ble_eq_true rfl⟩) [(0, 19)] rfl rfl rfl (fun x1 H locs ex1 nx1 hP hS => ?_)
  have hf := bnd_of hf ex1
  refine lv_if_ne (tgt := 11) hx hb dX6_addRule_6 (by decide) (fun cb => ?_) (fun cb => ?_)
  · have hf := it_f cb hf
    refine lv_aload_n hx hb dX6_addRule_11 rfl (lv_at hl 0 rfl) ?_
    refine lv_iload_n hx hb dX6_addRule_12 rfl (lv_at hl 1 rfl) ?_
    refine lv_iload_n hx hb dX6_addRule_13 rfl (lv_at hl 2 rfl) ?_
    refine cIp hP hD hS hA (fun hPc hDc => rV (As := [.int p1, .int p2]) (rest := []) hx hb hml hown hts hK (c_X6_isThere l g a0 s0 p1 p2 (bnd_ne hf)) svV_X6_isThere kw437 rfl rfl hPc hDc rfl rfl hl.1 (Nat.le_of_ble_eq_true rfl) dX6_addRule_14 ⟨Nat.le_of_ble_eq_true rfl, Nat.le_of_ble_eq_true rfl, rfl, rfl, Nat.le_of_ble_eq_true rfl, Nat.le_of_ble_eq_true rfl⟩) [(0, 19)] rfl rfl rfl (fun x2 H locs ex2 nx2 hP hS => ?_)
    have hf := bnd_of hf ex2
    refine lv_if_ne (tgt := 29) hx hb dX6_addRule_17 (by decide) (fun cb => ?_) (fun cb => ?_)
    · have hf := it_f cb hf
      refine lv_bipush (v := (-3)) hx hb dX6_addRule_29 (by decide) ?_
      exact retI (u := ((-3 : Int32), (p6_lowers s0), (p6_uppers s0), (p6_rules s0), (p6_reached s0))) hx hb hr hlocks hS hP hD (hf0.trans hf.symm) rfl rfl dX6_addRule_31
    have hf := it_t cb hf
    refine lv_aload_n hx hb dX6_addRule_20 rfl (lv_at hl 0 rfl) ?_
    refine lv_iload_n hx hb dX6_addRule_21 rfl (lv_at hl 2 rfl) ?_
    refine lv_iload_n hx hb dX6_addRule_22 rfl (lv_at hl 1 rfl) ?_
    refine cI hP hD hS hA (fun hPc hDc => rV (As := [.int p2, .int p1]) (rest := []) hx hb hml hown hts hK (c_X6_isUnder l g a0 s0 p2 p1 (bnd_ne hf)) svV_X6_isUnder kw440 rfl rfl hPc hDc rfl rfl hl.1 (Nat.le_of_ble_eq_true rfl) dX6_addRule_23 ⟨Nat.le_of_ble_eq_true rfl, Nat.le_of_ble_eq_true rfl, rfl, rfl, Nat.le_of_ble_eq_true rfl, Nat.le_of_ble_eq_true rfl⟩) [(0, 19)] rfl rfl rfl (fun _ => rfl) (fun x3 H locs ex3 nx3 hP hD hS => ?_)
    have hf := bnd_of hf ex3
    have hP : va_P g.1 vwCl (wX6 a0 g ((p6_raws s0), (p6_kinds s0), (p6_figures s0), (p6_heavies s0), (p6_places s0), (p6_papers s0), (p6_lowers s0), (p6_uppers s0), (p6_rules s0), (p6_bounds s0), (p6_boundCount s0), (p6_tieWay s0), x3.2)) H := hP
    have hD : va_D A (wX6 a0 g ((p6_raws s0), (p6_kinds s0), (p6_figures s0), (p6_heavies s0), (p6_places s0), (p6_papers s0), (p6_lowers s0), (p6_uppers s0), (p6_rules s0), (p6_bounds s0), (p6_boundCount s0), (p6_tieWay s0), x3.2)) := hD
    refine lv_if_eq (tgt := 32) hx hb dX6_addRule_26 (by decide) (fun cb => ?_) (fun cb => ?_)
    · have hf := it_t cb hf
      refine lv_aload_n hx hb dX6_addRule_32 rfl (lv_at hl 0 rfl) ?_
      refine va_get (D := g.1) (ci := 7) (v := .int (p6_rules s0)) (C := RX6) (T := TX6) (N := 13) hx hb hts layX6 hown hK.1 hP 0 rfl rfl 8 (by decide) (hts _ kw57) (fun _ h9 => h9) rfl dX6_addRule_33 ?_
      refine lv_bipush (v := 12) hx hb dX6_addRule_36 (by decide) ?_
      refine lv_icmp_lt (tgt := 44) hx hb dX6_addRule_38 (by decide) (fun cb => ?_) (fun cb => ?_)
      · have hf := it_t cb hf
        refine lv_aload_n hx hb dX6_addRule_44 rfl (lv_at hl 0 rfl) ?_
        refine va_get (D := g.1) (ci := 7) (v := .ref (a0 11)) (C := RX6) (T := TX6) (N := 13) hx hb hts layX6 hown hK.1 hP 0 rfl rfl 6 (by decide) (hts _ kw55) (fun _ h9 => h9) rfl dX6_addRule_45 ?_
        refine lv_aload_n hx hb dX6_addRule_48 rfl (lv_at hl 0 rfl) ?_
        refine va_get (D := g.1) (ci := 7) (v := .int (p6_rules s0)) (C := RX6) (T := TX6) (N := 13) hx hb hts layX6 hown hK.1 hP 0 rfl rfl 8 (by decide) (hts _ kw57) (fun _ h9 => h9) rfl dX6_addRule_49 ?_
        refine lv_iload_n hx hb dX6_addRule_52 rfl (lv_at hl 1 rfl) ?_
        refine cV hP hD hS hA (fun hPc hDc => rV (As := [.int (p6_rules s0), .int p1]) (rest := []) hx hb hml hown hts hK (c_X2_set l g (fun i => a0 (i + 11)) 12 (p6_lowers s0) (p6_rules s0) p1 (bnd_ne hf)) svV_X2_set kw408 rfl rfl hPc hDc rfl rfl hl.1 (Nat.le_of_ble_eq_true rfl) dX6_addRule_53 ⟨Nat.le_of_ble_eq_true rfl, Nat.le_of_ble_eq_true rfl, rfl, rfl, Nat.le_of_ble_eq_true rfl, Nat.le_of_ble_eq_true rfl⟩) [(11, 2)] rfl rfl rfl (fun _ => rfl) (fun x4 H locs ex4 hP hD hS => ?_)
        have hf := bnd_of hf ex4
        have hP : va_P g.1 vwCl (wX6 a0 g ((p6_raws s0), (p6_kinds s0), (p6_figures s0), (p6_heavies s0), (p6_places s0), (p6_papers s0), x4, (p6_uppers s0), (p6_rules s0), (p6_bounds s0), (p6_boundCount s0), (p6_tieWay s0), x3.2)) H := hP
        have hD : va_D A (wX6 a0 g ((p6_raws s0), (p6_kinds s0), (p6_figures s0), (p6_heavies s0), (p6_places s0), (p6_papers s0), x4, (p6_uppers s0), (p6_rules s0), (p6_bounds s0), (p6_boundCount s0), (p6_tieWay s0), x3.2)) := hD
        refine lv_aload_n hx hb dX6_addRule_56 rfl (lv_at hl 0 rfl) ?_
        refine va_get (D := g.1) (ci := 7) (v := .ref (a0 13)) (C := RX6) (T := TX6) (N := 13) hx hb hts layX6 hown hK.1 hP 0 rfl rfl 7 (by decide) (hts _ kw56) (fun _ h9 => h9) rfl dX6_addRule_57 ?_
        refine lv_aload_n hx hb dX6_addRule_60 rfl (lv_at hl 0 rfl) ?_
        refine va_get (D := g.1) (ci := 7) (v := .int (p6_rules s0)) (C := RX6) (T := TX6) (N := 13) hx hb hts layX6 hown hK.1 hP 0 rfl rfl 8 (by decide) (hts _ kw57) (fun _ h9 => h9) rfl dX6_addRule_61 ?_
        refine lv_iload_n hx hb dX6_addRule_64 rfl (lv_at hl 2 rfl) ?_
        refine cV hP hD hS hA (fun hPc hDc => rV (As := [.int (p6_rules s0), .int p2]) (rest := []) hx hb hml hown hts hK (c_X2_set l g (fun i => a0 (i + 13)) 12 (p6_uppers s0) (p6_rules s0) p2 (bnd_ne hf)) svV_X2_set kw408 rfl rfl hPc hDc rfl rfl hl.1 (Nat.le_of_ble_eq_true rfl) dX6_addRule_65 ⟨Nat.le_of_ble_eq_true rfl, Nat.le_of_ble_eq_true rfl, rfl, rfl, Nat.le_of_ble_eq_true rfl, Nat.le_of_ble_eq_true rfl⟩) [(13, 2)] rfl rfl rfl (fun _ => rfl) (fun x5 H locs ex5 hP hD hS => ?_)
        have hf := bnd_of hf ex5
        have hP : va_P g.1 vwCl (wX6 a0 g ((p6_raws s0), (p6_kinds s0), (p6_figures s0), (p6_heavies s0), (p6_places s0), (p6_papers s0), x4, x5, (p6_rules s0), (p6_bounds s0), (p6_boundCount s0), (p6_tieWay s0), x3.2)) H := hP
        have hD : va_D A (wX6 a0 g ((p6_raws s0), (p6_kinds s0), (p6_figures s0), (p6_heavies s0), (p6_places s0), (p6_papers s0), x4, x5, (p6_rules s0), (p6_bounds s0), (p6_boundCount s0), (p6_tieWay s0), x3.2)) := hD
        refine lv_aload_n hx hb dX6_addRule_68 rfl (lv_at hl 0 rfl) ?_
        refine lv_dup hx hb dX6_addRule_69 rfl ?_
        refine va_get (D := g.1) (ci := 7) (v := .int (p6_rules s0)) (C := RX6) (T := TX6) (N := 13) hx hb hts layX6 hown hK.1 hP 0 rfl rfl 8 (by decide) (hts _ kw57) (fun _ h9 => h9) rfl dX6_addRule_70 ?_
        refine lv_iconst (v := 1) hx hb dX6_addRule_73 (by decide) ?_
        refine lv_iadd hx hb dX6_addRule_74 ?_
        refine va_put (D := g.1) (ci := 7) (v := .int ((p6_rules s0) + (1 : Int32))) (ty := .int) (C := RX6) (T := TX6) (N := 13) hx hb hts layX6 tyX6 tyX6_ok nmX6 hown hK.1 hP hD hS 0 rfl rfl 8 (by decide) (hts _ kw57) (fun _ h9 => h9) rfl (tyX6_ok 8 (by decide)) rfl rfl (Nat.le_of_ble_eq_true rfl) dX6_addRule_75 (fun H locs hP hD hS => ?_)
        have hP : va_P g.1 vwCl (wX6 a0 g ((p6_raws s0), (p6_kinds s0), (p6_figures s0), (p6_heavies s0), (p6_places s0), (p6_papers s0), x4, x5, ((p6_rules s0) + (1 : Int32)), (p6_bounds s0), (p6_boundCount s0), (p6_tieWay s0), x3.2)) H := hP
        have hD : va_D A (wX6 a0 g ((p6_raws s0), (p6_kinds s0), (p6_figures s0), (p6_heavies s0), (p6_places s0), (p6_papers s0), x4, x5, ((p6_rules s0) + (1 : Int32)), (p6_bounds s0), (p6_boundCount s0), (p6_tieWay s0), x3.2)) := hD
        refine lv_aload_n hx hb dX6_addRule_78 rfl (lv_at hl 0 rfl) ?_
        refine va_get (D := g.1) (ci := 7) (v := .int ((p6_rules s0) + (1 : Int32))) (C := RX6) (T := TX6) (N := 13) hx hb hts layX6 hown hK.1 hP 0 rfl rfl 8 (by decide) (hts _ kw57) (fun _ h9 => h9) rfl dX6_addRule_79 ?_
        refine lv_iconst (v := 1) hx hb dX6_addRule_82 (by decide) ?_
        refine lv_isub hx hb dX6_addRule_83 ?_
        exact retI (u := ((((p6_rules s0) + (1 : Int32)) - (1 : Int32)), x4, x5, ((p6_rules s0) + (1 : Int32)), x3.2)) hx hb hr hlocks hS hP hD (hf0.trans hf.symm) rfl rfl dX6_addRule_84
      have hf := it_f cb hf
      refine lv_bipush (v := (-6)) hx hb dX6_addRule_41 (by decide) ?_
      exact retI (u := ((-6 : Int32), (p6_lowers s0), (p6_uppers s0), (p6_rules s0), x3.2)) hx hb hr hlocks hS hP hD (hf0.trans hf.symm) rfl rfl dX6_addRule_43
    have hf := it_f cb hf
    refine lv_bipush (v := (-3)) hx hb dX6_addRule_29 (by decide) ?_
    exact retI (u := ((-3 : Int32), (p6_lowers s0), (p6_uppers s0), (p6_rules s0), x3.2)) hx hb hr hlocks hS hP hD (hf0.trans hf.symm) rfl rfl dX6_addRule_31
  have hf := it_t cb hf
  refine lv_iconst (v := (-1)) hx hb dX6_addRule_9 (by decide) ?_
  exact retI (u := ((-1 : Int32), (p6_lowers s0), (p6_uppers s0), (p6_rules s0), (p6_reached s0))) hx hb hr hlocks hS hP hD (hf0.trans hf.symm) rfl rfl dX6_addRule_10
set_option maxHeartbeats 4000000 in
set_option maxRecDepth 100000 in
theorem c_X6_takeRule (l : Launch) (g : GG) (a0 : Nat → Nat) (s0 : T6) (p1 : Int32) (hne : (m_X6_takeRule s0 p1) ≠ none) : Ct l g yX6_takeRule cX6_takeRule 2 (some .int) ({ frames := 2, cells := 0, slots := 0, locals := 44 } : Room) [.ref (a0 0), .int p1] (wX6 a0 g s0) (Qi g .int (m_X6_takeRule s0 p1) (fun u => u.1) (fun u => wX6 a0 g ((p6_raws s0), (p6_kinds s0), (p6_figures s0), (p6_heavies s0), (p6_places s0), (p6_papers s0), u.2.1, u.2.2.1, u.2.2.2, (p6_bounds s0), (p6_boundCount s0), (p6_tieWay s0), (p6_reached s0)))) 0 0 := by
  obtain ⟨out, hf⟩ := ne_ex hne
  have hf0 := hf
  refine Ct.of (own := RX6) (by decide +kernel) rfl (Nat.le_of_ble_eq_true rfl) ?_
  intro p e s m below meth c hx hb hr hml hown hts hlocks hin hK A H locs hA hP hD hS ls hl
  have hl : lv_has ls 2 [(0, .ref (a0 0)), (1, .int p1)] := hl
  unfold m_X6_takeRule at hf
  refine lv_aload_n hx hb dX6_takeRule_0 rfl (lv_at hl 0 rfl) ?_
  refine lv_iload_n hx hb dX6_takeRule_1 rfl (lv_at hl 1 rfl) ?_
  refine cIp hP hD hS hA (fun hPc hDc => rV (As := [.int p1]) (rest := []) hx hb hml hown hts hK (c_X6_hasRule l g a0 s0 p1 (bnd_ne hf)) svV_X6_hasRule kw454 rfl rfl hPc hDc rfl rfl hl.1 (Nat.le_of_ble_eq_true rfl) dX6_takeRule_2 ⟨Nat.le_of_ble_eq_true rfl, Nat.le_of_ble_eq_true rfl, rfl, rfl, Nat.le_of_ble_eq_true rfl, Nat.le_of_ble_eq_true rfl⟩) [(0, 19)] rfl rfl rfl (fun x1 H locs ex1 nx1 hP hS => ?_)
  have hf := bnd_of hf ex1
  refine lv_if_ne (tgt := 10) hx hb dX6_takeRule_5 (by decide) (fun cb => ?_) (fun cb => ?_)
  · have hf := it_f cb hf
    refine lv_aload_n hx hb dX6_takeRule_10 rfl (lv_at hl 0 rfl) ?_
    refine va_get (D := g.1) (ci := 7) (v := .ref (a0 11)) (C := RX6) (T := TX6) (N := 13) hx hb hts layX6 hown hK.1 hP 0 rfl rfl 6 (by decide) (hts _ kw55) (fun _ h9 => h9) rfl dX6_takeRule_11 ?_
    refine lv_iload_n hx hb dX6_takeRule_14 rfl (lv_at hl 1 rfl) ?_
    refine cV hP hD hS hA (fun hPc hDc => rV (As := [.int p1]) (rest := []) hx hb hml hown hts hK (c_X2_removeAt l g (fun i => a0 (i + 11)) 12 (p6_lowers s0) p1 (bnd_ne hf)) svV_X2_removeAt kw458 rfl rfl hPc hDc rfl rfl hl.1 (Nat.le_of_ble_eq_true rfl) dX6_takeRule_15 ⟨Nat.le_of_ble_eq_true rfl, Nat.le_of_ble_eq_true rfl, rfl, rfl, Nat.le_of_ble_eq_true rfl, Nat.le_of_ble_eq_true rfl⟩) [(11, 2)] rfl rfl rfl (fun _ => rfl) (fun x2 H locs ex2 hP hD hS => ?_)
    have hf := bnd_of hf ex2
    have hP : va_P g.1 vwCl (wX6 a0 g ((p6_raws s0), (p6_kinds s0), (p6_figures s0), (p6_heavies s0), (p6_places s0), (p6_papers s0), x2, (p6_uppers s0), (p6_rules s0), (p6_bounds s0), (p6_boundCount s0), (p6_tieWay s0), (p6_reached s0))) H := hP
    have hD : va_D A (wX6 a0 g ((p6_raws s0), (p6_kinds s0), (p6_figures s0), (p6_heavies s0), (p6_places s0), (p6_papers s0), x2, (p6_uppers s0), (p6_rules s0), (p6_bounds s0), (p6_boundCount s0), (p6_tieWay s0), (p6_reached s0))) := hD
    refine lv_aload_n hx hb dX6_takeRule_18 rfl (lv_at hl 0 rfl) ?_
    refine va_get (D := g.1) (ci := 7) (v := .ref (a0 13)) (C := RX6) (T := TX6) (N := 13) hx hb hts layX6 hown hK.1 hP 0 rfl rfl 7 (by decide) (hts _ kw56) (fun _ h9 => h9) rfl dX6_takeRule_19 ?_
    refine lv_iload_n hx hb dX6_takeRule_22 rfl (lv_at hl 1 rfl) ?_
    refine cV hP hD hS hA (fun hPc hDc => rV (As := [.int p1]) (rest := []) hx hb hml hown hts hK (c_X2_removeAt l g (fun i => a0 (i + 13)) 12 (p6_uppers s0) p1 (bnd_ne hf)) svV_X2_removeAt kw458 rfl rfl hPc hDc rfl rfl hl.1 (Nat.le_of_ble_eq_true rfl) dX6_takeRule_23 ⟨Nat.le_of_ble_eq_true rfl, Nat.le_of_ble_eq_true rfl, rfl, rfl, Nat.le_of_ble_eq_true rfl, Nat.le_of_ble_eq_true rfl⟩) [(13, 2)] rfl rfl rfl (fun _ => rfl) (fun x3 H locs ex3 hP hD hS => ?_)
    have hf := bnd_of hf ex3
    have hP : va_P g.1 vwCl (wX6 a0 g ((p6_raws s0), (p6_kinds s0), (p6_figures s0), (p6_heavies s0), (p6_places s0), (p6_papers s0), x2, x3, (p6_rules s0), (p6_bounds s0), (p6_boundCount s0), (p6_tieWay s0), (p6_reached s0))) H := hP
    have hD : va_D A (wX6 a0 g ((p6_raws s0), (p6_kinds s0), (p6_figures s0), (p6_heavies s0), (p6_places s0), (p6_papers s0), x2, x3, (p6_rules s0), (p6_bounds s0), (p6_boundCount s0), (p6_tieWay s0), (p6_reached s0))) := hD
    refine lv_aload_n hx hb dX6_takeRule_26 rfl (lv_at hl 0 rfl) ?_
    refine lv_dup hx hb dX6_takeRule_27 rfl ?_
    refine va_get (D := g.1) (ci := 7) (v := .int (p6_rules s0)) (C := RX6) (T := TX6) (N := 13) hx hb hts layX6 hown hK.1 hP 0 rfl rfl 8 (by decide) (hts _ kw57) (fun _ h9 => h9) rfl dX6_takeRule_28 ?_
    refine lv_iconst (v := 1) hx hb dX6_takeRule_31 (by decide) ?_
    refine lv_isub hx hb dX6_takeRule_32 ?_
    refine va_put (D := g.1) (ci := 7) (v := .int ((p6_rules s0) - (1 : Int32))) (ty := .int) (C := RX6) (T := TX6) (N := 13) hx hb hts layX6 tyX6 tyX6_ok nmX6 hown hK.1 hP hD hS 0 rfl rfl 8 (by decide) (hts _ kw57) (fun _ h9 => h9) rfl (tyX6_ok 8 (by decide)) rfl rfl (Nat.le_of_ble_eq_true rfl) dX6_takeRule_33 (fun H locs hP hD hS => ?_)
    have hP : va_P g.1 vwCl (wX6 a0 g ((p6_raws s0), (p6_kinds s0), (p6_figures s0), (p6_heavies s0), (p6_places s0), (p6_papers s0), x2, x3, ((p6_rules s0) - (1 : Int32)), (p6_bounds s0), (p6_boundCount s0), (p6_tieWay s0), (p6_reached s0))) H := hP
    have hD : va_D A (wX6 a0 g ((p6_raws s0), (p6_kinds s0), (p6_figures s0), (p6_heavies s0), (p6_places s0), (p6_papers s0), x2, x3, ((p6_rules s0) - (1 : Int32)), (p6_bounds s0), (p6_boundCount s0), (p6_tieWay s0), (p6_reached s0))) := hD
    refine lv_aload_n hx hb dX6_takeRule_36 rfl (lv_at hl 0 rfl) ?_
    refine va_get (D := g.1) (ci := 7) (v := .int ((p6_rules s0) - (1 : Int32))) (C := RX6) (T := TX6) (N := 13) hx hb hts layX6 hown hK.1 hP 0 rfl rfl 8 (by decide) (hts _ kw57) (fun _ h9 => h9) rfl dX6_takeRule_37 ?_
    exact retI (u := (((p6_rules s0) - (1 : Int32)), x2, x3, ((p6_rules s0) - (1 : Int32)))) hx hb hr hlocks hS hP hD (hf0.trans hf.symm) rfl rfl dX6_takeRule_40
  have hf := it_t cb hf
  refine lv_iconst (v := (-1)) hx hb dX6_takeRule_8 (by decide) ?_
  exact retI (u := ((-1 : Int32), (p6_lowers s0), (p6_uppers s0), (p6_rules s0))) hx hb hr hlocks hS hP hD (hf0.trans hf.symm) rfl rfl dX6_takeRule_9
set_option maxHeartbeats 4000000 in
set_option maxRecDepth 100000 in
theorem c_X6_addLimit (l : Launch) (g : GG) (a0 : Nat → Nat) (s0 : T6) (p1 : Int32) (hne : (m_X6_addLimit s0 p1) ≠ none) : Ct l g yX6_addLimit cX6_addLimit 2 (some .int) ({ frames := 1, cells := 0, slots := 0, locals := 22 } : Room) [.ref (a0 0), .int p1] (wX6 a0 g s0) (Qi g .int (m_X6_addLimit s0 p1) (fun u => u.1) (fun u => wX6 a0 g ((p6_raws s0), (p6_kinds s0), (p6_figures s0), (p6_heavies s0), (p6_places s0), (p6_papers s0), (p6_lowers s0), (p6_uppers s0), (p6_rules s0), u.2.1, u.2.2, (p6_tieWay s0), (p6_reached s0)))) 0 0 := by
  obtain ⟨out, hf⟩ := ne_ex hne
  have hf0 := hf
  refine Ct.of (own := RX6) (by decide +kernel) rfl (Nat.le_of_ble_eq_true rfl) ?_
  intro p e s m below meth c hx hb hr hml hown hts hlocks hin hK A H locs hA hP hD hS ls hl
  have hl : lv_has ls 2 [(0, .ref (a0 0)), (1, .int p1)] := hl
  unfold m_X6_addLimit at hf
  refine lv_iload_n hx hb dX6_addLimit_0 rfl (lv_at hl 1 rfl) ?_
  refine lv_iconst (v := 1) hx hb dX6_addLimit_1 (by decide) ?_
  refine lv_icmp_ge (tgt := 8) hx hb dX6_addLimit_2 (by decide) (fun cb => ?_) (fun cb => ?_)
  · have hf := it_t cb hf
    refine lv_iload_n hx hb dX6_addLimit_8 rfl (lv_at hl 1 rfl) ?_
    refine lv_bipush (v := 99) hx hb dX6_addLimit_9 (by decide) ?_
    refine lv_icmp_gt (tgt := 22) hx hb dX6_addLimit_11 (by decide) (fun cb => ?_) (fun cb => ?_)
    · have hf := it_t cb hf
      refine lv_bipush (v := (-6)) hx hb dX6_addLimit_22 (by decide) ?_
      exact retI (u := ((-6 : Int32), (p6_bounds s0), (p6_boundCount s0))) hx hb hr hlocks hS hP hD (hf0.trans hf.symm) rfl rfl dX6_addLimit_24
    have hf := it_f cb hf
    refine lv_aload_n hx hb dX6_addLimit_14 rfl (lv_at hl 0 rfl) ?_
    refine va_get (D := g.1) (ci := 7) (v := .int (p6_boundCount s0)) (C := RX6) (T := TX6) (N := 13) hx hb hts layX6 hown hK.1 hP 0 rfl rfl 10 (by decide) (hts _ kw59) (fun _ h9 => h9) rfl dX6_addLimit_15 ?_
    refine lv_iconst (v := 5) hx hb dX6_addLimit_18 (by decide) ?_
    refine lv_icmp_lt (tgt := 25) hx hb dX6_addLimit_19 (by decide) (fun cb => ?_) (fun cb => ?_)
    · have hf := it_t cb hf
      refine lv_aload_n hx hb dX6_addLimit_25 rfl (lv_at hl 0 rfl) ?_
      refine va_get (D := g.1) (ci := 7) (v := .int (p6_boundCount s0)) (C := RX6) (T := TX6) (N := 13) hx hb hts layX6 hown hK.1 hP 0 rfl rfl 10 (by decide) (hts _ kw59) (fun _ h9 => h9) rfl dX6_addLimit_26 ?_
      obtain ⟨r2, er2, hf⟩ := bnd hf
      have K : match r2 with | .inl x3 => (∀ (H : Heap) (locs : List Loc) (ls : Array Slot), va_P g.1 vwCl (wX6 a0 g s0) H → va_D A (wX6 a0 g s0) → va_S A s.heap H locs → lv_has ls 2 [(0, .ref (a0 0)), (1, .int p1)] → W p l e { frames := 1, cells := 0, slots := 0, locals := 22 } s m [.ref (a0 0), .int p1].toArray below meth c H locs 0 0 (MQ below (Qi g .int (m_X6_addLimit s0 p1) (fun u => u.1) (fun u => wX6 a0 g ((p6_raws s0), (p6_kinds s0), (p6_figures s0), (p6_heavies s0), (p6_places s0), (p6_papers s0), (p6_lowers s0), (p6_uppers s0), (p6_rules s0), u.2.1, u.2.2, (p6_tieWay s0), (p6_reached s0))) A) [.ref (a0 0), .int p1].toArray s 0 0 A) (F0 m 52 ls [])) | .inr v => (m_X6_addLimit s0 p1) = some v := by
        rcases r2 with x3 | v
        · intro H locs ls hP hD hS hl
          refine lv_aload_n hx hb dX6_addLimit_52 rfl (lv_at hl 0 rfl) ?_
          refine va_get (D := g.1) (ci := 7) (v := .ref (a0 15)) (C := RX6) (T := TX6) (N := 13) hx hb hts layX6 hown hK.1 hP 0 rfl rfl 9 (by decide) (hts _ kw58) (fun _ h9 => h9) rfl dX6_addLimit_53 ?_
          refine lv_aload_n hx hb dX6_addLimit_56 rfl (lv_at hl 0 rfl) ?_
          refine va_get (D := g.1) (ci := 7) (v := .int (p6_boundCount s0)) (C := RX6) (T := TX6) (N := 13) hx hb hts layX6 hown hK.1 hP 0 rfl rfl 10 (by decide) (hts _ kw59) (fun _ h9 => h9) rfl dX6_addLimit_57 ?_
          refine lv_iload_n hx hb dX6_addLimit_60 rfl (lv_at hl 1 rfl) ?_
          refine cV hP hD hS hA (fun hPc hDc => rV (As := [.int (p6_boundCount s0), .int p1]) (rest := []) hx hb hml hown hts hK (c_X2_set l g (fun i => a0 (i + 15)) 5 (p6_bounds s0) (p6_boundCount s0) p1 (bnd_ne hf)) svV_X2_set kw408 rfl rfl hPc hDc rfl rfl hl.1 (Nat.le_of_ble_eq_true rfl) dX6_addLimit_61 ⟨Nat.le_of_ble_eq_true rfl, Nat.le_of_ble_eq_true rfl, rfl, rfl, Nat.le_of_ble_eq_true rfl, Nat.le_of_ble_eq_true rfl⟩) [(15, 2)] rfl rfl rfl (fun _ => rfl) (fun x4 H locs ex4 hP hD hS => ?_)
          have hf := bnd_of hf ex4
          have hP : va_P g.1 vwCl (wX6 a0 g ((p6_raws s0), (p6_kinds s0), (p6_figures s0), (p6_heavies s0), (p6_places s0), (p6_papers s0), (p6_lowers s0), (p6_uppers s0), (p6_rules s0), x4, (p6_boundCount s0), (p6_tieWay s0), (p6_reached s0))) H := hP
          have hD : va_D A (wX6 a0 g ((p6_raws s0), (p6_kinds s0), (p6_figures s0), (p6_heavies s0), (p6_places s0), (p6_papers s0), (p6_lowers s0), (p6_uppers s0), (p6_rules s0), x4, (p6_boundCount s0), (p6_tieWay s0), (p6_reached s0))) := hD
          refine lv_aload_n hx hb dX6_addLimit_64 rfl (lv_at hl 0 rfl) ?_
          refine lv_dup hx hb dX6_addLimit_65 rfl ?_
          refine va_get (D := g.1) (ci := 7) (v := .int (p6_boundCount s0)) (C := RX6) (T := TX6) (N := 13) hx hb hts layX6 hown hK.1 hP 0 rfl rfl 10 (by decide) (hts _ kw59) (fun _ h9 => h9) rfl dX6_addLimit_66 ?_
          refine lv_iconst (v := 1) hx hb dX6_addLimit_69 (by decide) ?_
          refine lv_iadd hx hb dX6_addLimit_70 ?_
          refine va_put (D := g.1) (ci := 7) (v := .int ((p6_boundCount s0) + (1 : Int32))) (ty := .int) (C := RX6) (T := TX6) (N := 13) hx hb hts layX6 tyX6 tyX6_ok nmX6 hown hK.1 hP hD hS 0 rfl rfl 10 (by decide) (hts _ kw59) (fun _ h9 => h9) rfl (tyX6_ok 10 (by decide)) rfl rfl (Nat.le_of_ble_eq_true rfl) dX6_addLimit_71 (fun H locs hP hD hS => ?_)
          have hP : va_P g.1 vwCl (wX6 a0 g ((p6_raws s0), (p6_kinds s0), (p6_figures s0), (p6_heavies s0), (p6_places s0), (p6_papers s0), (p6_lowers s0), (p6_uppers s0), (p6_rules s0), x4, ((p6_boundCount s0) + (1 : Int32)), (p6_tieWay s0), (p6_reached s0))) H := hP
          have hD : va_D A (wX6 a0 g ((p6_raws s0), (p6_kinds s0), (p6_figures s0), (p6_heavies s0), (p6_places s0), (p6_papers s0), (p6_lowers s0), (p6_uppers s0), (p6_rules s0), x4, ((p6_boundCount s0) + (1 : Int32)), (p6_tieWay s0), (p6_reached s0))) := hD
          refine lv_aload_n hx hb dX6_addLimit_74 rfl (lv_at hl 0 rfl) ?_
          refine va_get (D := g.1) (ci := 7) (v := .int ((p6_boundCount s0) + (1 : Int32))) (C := RX6) (T := TX6) (N := 13) hx hb hts layX6 hown hK.1 hP 0 rfl rfl 10 (by decide) (hts _ kw59) (fun _ h9 => h9) rfl dX6_addLimit_75 ?_
          exact retI (u := (((p6_boundCount s0) + (1 : Int32)), x4, ((p6_boundCount s0) + (1 : Int32)))) hx hb hr hlocks hS hP hD (hf0.trans hf.symm) rfl rfl dX6_addLimit_78
        · exact hf0.trans hf.symm
      have hf := er2
      refine lv_if_le (tgt := 52) hx hb dX6_addLimit_29 (by decide) (fun cb => ?_) (fun cb => ?_)
      · have hf := it_t cb hf
        cases hf
        exact K _ _ _ hP hD hS (lv_sub hl [0, 1] rfl)
      have hf := it_f cb hf
      refine lv_iload_n hx hb dX6_addLimit_32 rfl (lv_at hl 1 rfl) ?_
      refine lv_aload_n hx hb dX6_addLimit_33 rfl (lv_at hl 0 rfl) ?_
      refine va_get (D := g.1) (ci := 7) (v := .ref (a0 15)) (C := RX6) (T := TX6) (N := 13) hx hb hts layX6 hown hK.1 hP 0 rfl rfl 9 (by decide) (hts _ kw58) (fun _ h9 => h9) rfl dX6_addLimit_34 ?_
      refine lv_aload_n hx hb dX6_addLimit_37 rfl (lv_at hl 0 rfl) ?_
      refine va_get (D := g.1) (ci := 7) (v := .int (p6_boundCount s0)) (C := RX6) (T := TX6) (N := 13) hx hb hts layX6 hown hK.1 hP 0 rfl rfl 10 (by decide) (hts _ kw59) (fun _ h9 => h9) rfl dX6_addLimit_38 ?_
      refine lv_iconst (v := 1) hx hb dX6_addLimit_41 (by decide) ?_
      refine lv_isub hx hb dX6_addLimit_42 ?_
      refine cIp hP hD hS hA (fun hPc hDc => rV (As := [.int ((p6_boundCount s0) - (1 : Int32))]) (rest := [.int p1]) hx hb hml hown hts hK (c_X2_get l g (fun i => a0 (i + 15)) 5 (p6_bounds s0) ((p6_boundCount s0) - (1 : Int32)) (bnd_ne hf)) svV_X2_get kw417 rfl rfl hPc hDc rfl rfl hl.1 (Nat.le_of_ble_eq_true rfl) dX6_addLimit_43 ⟨Nat.le_of_ble_eq_true rfl, Nat.le_of_ble_eq_true rfl, rfl, rfl, Nat.le_of_ble_eq_true rfl, Nat.le_of_ble_eq_true rfl⟩) [(15, 2)] rfl rfl rfl (fun x5 H locs ex5 nx5 hP hS => ?_)
      have hf := bnd_of hf ex5
      refine lv_icmp_gt (tgt := 52) hx hb dX6_addLimit_46 (by decide) (fun cb => ?_) (fun cb => ?_)
      · have hf := it_t cb hf
        cases hf
        exact K _ _ _ hP hD hS (lv_sub hl [0, 1] rfl)
      have hf := it_f cb hf
      refine lv_bipush (v := (-3)) hx hb dX6_addLimit_49 (by decide) ?_
      cases hf
      exact retI (u := ((-3 : Int32), (p6_bounds s0), (p6_boundCount s0))) hx hb hr hlocks hS hP hD K rfl rfl dX6_addLimit_51
    have hf := it_f cb hf
    refine lv_bipush (v := (-6)) hx hb dX6_addLimit_22 (by decide) ?_
    exact retI (u := ((-6 : Int32), (p6_bounds s0), (p6_boundCount s0))) hx hb hr hlocks hS hP hD (hf0.trans hf.symm) rfl rfl dX6_addLimit_24
  have hf := it_f cb hf
  refine lv_bipush (v := (-4)) hx hb dX6_addLimit_5 (by decide) ?_
  exact retI (u := ((-4 : Int32), (p6_bounds s0), (p6_boundCount s0))) hx hb hr hlocks hS hP hD (hf0.trans hf.symm) rfl rfl dX6_addLimit_7
set_option maxHeartbeats 4000000 in
set_option maxRecDepth 100000 in
theorem c_X6_takeLimits (l : Launch) (g : GG) (a0 : Nat → Nat) (s0 : T6) (hne : (m_X6_takeLimits s0) ≠ none) : Ct l g yX6_takeLimits cX6_takeLimits 2 (some .int) ({ frames := 0, cells := 0, slots := 0, locals := 0 } : Room) [.ref (a0 0)] (wX6 a0 g s0) (Qi g .int (m_X6_takeLimits s0) (fun u => u.1) (fun u => wX6 a0 g ((p6_raws s0), (p6_kinds s0), (p6_figures s0), (p6_heavies s0), (p6_places s0), (p6_papers s0), (p6_lowers s0), (p6_uppers s0), (p6_rules s0), (p6_bounds s0), u.2, (p6_tieWay s0), (p6_reached s0)))) 0 0 := by
  obtain ⟨out, hf⟩ := ne_ex hne
  have hf0 := hf
  refine Ct.of (own := RX6) (by decide +kernel) rfl (Nat.le_of_ble_eq_true rfl) ?_
  intro p e s m below meth c hx hb hr hml hown hts hlocks hin hK A H locs hA hP hD hS ls hl
  have hl : lv_has ls 2 [(0, .ref (a0 0))] := hl
  unfold m_X6_takeLimits at hf
  refine lv_aload_n hx hb dX6_takeLimits_0 rfl (lv_at hl 0 rfl) ?_
  refine va_get (D := g.1) (ci := 7) (v := .int (p6_boundCount s0)) (C := RX6) (T := TX6) (N := 13) hx hb hts layX6 hown hK.1 hP 0 rfl rfl 10 (by decide) (hts _ kw59) (fun _ h9 => h9) rfl dX6_takeLimits_1 ?_
  refine lv_istore_n (lv' := [(1, .int (p6_boundCount s0)), (0, .ref (a0 0))]) hx hb dX6_takeLimits_4 rfl hl (by decide) rfl (fun ls hl => ?_)
  refine lv_aload_n hx hb dX6_takeLimits_5 rfl (lv_at hl 1 rfl) ?_
  refine lv_iconst (v := 0) hx hb dX6_takeLimits_6 (by decide) ?_
  refine va_put (D := g.1) (ci := 7) (v := .int (0 : Int32)) (ty := .int) (C := RX6) (T := TX6) (N := 13) hx hb hts layX6 tyX6 tyX6_ok nmX6 hown hK.1 hP hD hS 0 rfl rfl 10 (by decide) (hts _ kw59) (fun _ h9 => h9) rfl (tyX6_ok 10 (by decide)) rfl rfl (Nat.le_of_ble_eq_true rfl) dX6_takeLimits_7 (fun H locs hP hD hS => ?_)
  have hP : va_P g.1 vwCl (wX6 a0 g ((p6_raws s0), (p6_kinds s0), (p6_figures s0), (p6_heavies s0), (p6_places s0), (p6_papers s0), (p6_lowers s0), (p6_uppers s0), (p6_rules s0), (p6_bounds s0), (0 : Int32), (p6_tieWay s0), (p6_reached s0))) H := hP
  have hD : va_D A (wX6 a0 g ((p6_raws s0), (p6_kinds s0), (p6_figures s0), (p6_heavies s0), (p6_places s0), (p6_papers s0), (p6_lowers s0), (p6_uppers s0), (p6_rules s0), (p6_bounds s0), (0 : Int32), (p6_tieWay s0), (p6_reached s0))) := hD
  refine lv_iload_n hx hb dX6_takeLimits_10 rfl (lv_at hl 0 rfl) ?_
  exact retI (u := ((p6_boundCount s0), (0 : Int32))) hx hb hr hlocks hS hP hD (hf0.trans hf.symm) rfl rfl dX6_takeLimits_11
