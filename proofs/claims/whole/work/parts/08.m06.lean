theorem svV_X3_numberAt : SV RX3 yX3_numberAt cX3_numberAt 2 (some .int) 1 := ⟨kw397, kw398, kw5, kw399, rfl, by decide, by decide, by decide +kernel⟩
theorem svV_X3_wordRead : SV RX3 yX3_wordRead cX3_wordRead 1 (some .int) 0 := ⟨kw401, kw402, kw5, kw403, rfl, by decide, by decide, by decide +kernel⟩
theorem svV_X6_addPaper : SV RX6 yX6_addPaper cX6_addPaper 2 (some .int) 1 := ⟨kw405, kw406, kw2, kw407, rfl, by decide, by decide, by decide +kernel⟩
theorem svV_X6_setKind : SV RX6 yX6_setKind cX6_setKind 5 (some .int) 3 := ⟨kw410, kw411, kw2, kw412, rfl, by decide, by decide, by decide +kernel⟩
theorem svV_X6_setHeavy : SV RX6 yX6_setHeavy cX6_setHeavy 3 (some .int) 2 := ⟨kw419, kw420, kw2, kw421, rfl, by decide, by decide, by decide +kernel⟩
theorem svV_X6_setPlace : SV RX6 yX6_setPlace cX6_setPlace 3 (some .int) 2 := ⟨kw426, kw427, kw2, kw428, rfl, by decide, by decide, by decide +kernel⟩
theorem svV_X6_addRule : SV RX6 yX6_addRule cX6_addRule 3 (some .int) 2 := ⟨kw430, kw431, kw2, kw432, rfl, by decide, by decide, by decide +kernel⟩
theorem svV_X6_takeRule : SV RX6 yX6_takeRule cX6_takeRule 2 (some .int) 1 := ⟨kw451, kw452, kw2, kw453, rfl, by decide, by decide, by decide +kernel⟩
theorem svV_X6_addLimit : SV RX6 yX6_addLimit cX6_addLimit 2 (some .int) 1 := ⟨kw464, kw465, kw2, kw466, rfl, by decide, by decide, by decide +kernel⟩
theorem svV_X6_setTies : SV RX6 yX6_setTies cX6_setTies 3 (some .int) 1 := ⟨kw468, kw469, kw2, kw470, rfl, by decide, by decide, by decide +kernel⟩
theorem dX6_setTies_0 : decode cX6_setTies 0 = .ok (.iload_n 1, 1) := by decide +kernel
theorem dX6_setTies_1 : decode cX6_setTies 1 = .ok (.ifCond .lt 8, 3) := by decide +kernel
theorem dX6_setTies_9 : decode cX6_setTies 9 = .ok (.bipush (-2), 2) := by decide +kernel
theorem dX6_setTies_11 : decode cX6_setTies 11 = .ok (.ireturn, 1) := by decide +kernel
theorem dX6_setTies_4 : decode cX6_setTies 4 = .ok (.iload_n 1, 1) := by decide +kernel
theorem dX6_setTies_5 : decode cX6_setTies 5 = .ok (.iconst 2, 1) := by decide +kernel
theorem dX6_setTies_6 : decode cX6_setTies 6 = .ok (.if_icmp .le 6, 3) := by decide +kernel
theorem dX6_setTies_12 : decode cX6_setTies 12 = .ok (.aload_n 0, 1) := by decide +kernel
theorem dX6_setTies_13 : decode cX6_setTies 13 = .ok (.getfield 58, 3) := by decide +kernel
theorem dX6_setTies_16 : decode cX6_setTies 16 = .ok (.istore_n 2, 1) := by decide +kernel
theorem dX6_setTies_17 : decode cX6_setTies 17 = .ok (.aload_n 0, 1) := by decide +kernel
theorem dX6_setTies_18 : decode cX6_setTies 18 = .ok (.iload_n 1, 1) := by decide +kernel
theorem dX6_setTies_19 : decode cX6_setTies 19 = .ok (.putfield 58, 3) := by decide +kernel
theorem dX6_setTies_22 : decode cX6_setTies 22 = .ok (.iload_n 2, 1) := by decide +kernel
theorem dX6_setTies_23 : decode cX6_setTies 23 = .ok (.ireturn, 1) := by decide +kernel
theorem dX3_numberAt_0 : decode cX3_numberAt 0 = .ok (.aload_n 0, 1) := by decide +kernel
theorem dX3_numberAt_1 : decode cX3_numberAt 1 = .ok (.getfield 20, 3) := by decide +kernel
theorem dX3_numberAt_4 : decode cX3_numberAt 4 = .ok (.iload_n 1, 1) := by decide +kernel
theorem dX3_numberAt_5 : decode cX3_numberAt 5 = .ok (.invokevirtual 37, 3) := by decide +kernel
theorem dX3_numberAt_8 : decode cX3_numberAt 8 = .ok (.ireturn, 1) := by decide +kernel
theorem dX3_wordRead_0 : decode cX3_wordRead 0 = .ok (.aload_n 0, 1) := by decide +kernel
theorem dX3_wordRead_1 : decode cX3_wordRead 1 = .ok (.getfield 34, 3) := by decide +kernel
theorem dX3_wordRead_4 : decode cX3_wordRead 4 = .ok (.ireturn, 1) := by decide +kernel
theorem dX6_take_0 : decode cX6_take 0 = .ok (.aload_n 1, 1) := by decide +kernel
theorem dX6_take_1 : decode cX6_take 1 = .ok (.iconst 0, 1) := by decide +kernel
theorem dX6_take_2 : decode cX6_take 2 = .ok (.invokevirtual 114, 3) := by decide +kernel
theorem dX6_take_5 : decode cX6_take 5 = .ok (.istore_n 2, 1) := by decide +kernel
theorem dX6_take_6 : decode cX6_take 6 = .ok (.aload_n 1, 1) := by decide +kernel
theorem dX6_take_7 : decode cX6_take 7 = .ok (.iconst 1, 1) := by decide +kernel
theorem dX6_take_8 : decode cX6_take 8 = .ok (.invokevirtual 114, 3) := by decide +kernel
theorem dX6_take_11 : decode cX6_take 11 = .ok (.istore_n 3, 1) := by decide +kernel
theorem dX6_take_12 : decode cX6_take 12 = .ok (.aload_n 1, 1) := by decide +kernel
theorem dX6_take_13 : decode cX6_take 13 = .ok (.invokevirtual 119, 3) := by decide +kernel
theorem dX6_take_16 : decode cX6_take 16 = .ok (.tableswitch 105 0 7 #[48, 54, 66, 73, 80, 87, 93, 99], 48) := by decide +kernel
theorem dX6_take_64 : decode cX6_take 64 = .ok (.aload_n 0, 1) := by decide +kernel
theorem dX6_take_65 : decode cX6_take 65 = .ok (.iload_n 2, 1) := by decide +kernel
theorem dX6_take_66 : decode cX6_take 66 = .ok (.invokevirtual 123, 3) := by decide +kernel
theorem dX6_take_69 : decode cX6_take 69 = .ok (.ireturn, 1) := by decide +kernel
theorem dX6_take_70 : decode cX6_take 70 = .ok (.aload_n 0, 1) := by decide +kernel
theorem dX6_take_71 : decode cX6_take 71 = .ok (.iload_n 2, 1) := by decide +kernel
theorem dX6_take_72 : decode cX6_take 72 = .ok (.iload_n 3, 1) := by decide +kernel
theorem dX6_take_73 : decode cX6_take 73 = .ok (.aload_n 1, 1) := by decide +kernel
theorem dX6_take_74 : decode cX6_take 74 = .ok (.iconst 2, 1) := by decide +kernel
theorem dX6_take_75 : decode cX6_take 75 = .ok (.invokevirtual 114, 3) := by decide +kernel
theorem dX6_take_78 : decode cX6_take 78 = .ok (.invokevirtual 126, 3) := by decide +kernel
theorem dX6_take_81 : decode cX6_take 81 = .ok (.ireturn, 1) := by decide +kernel
theorem dX6_take_82 : decode cX6_take 82 = .ok (.aload_n 0, 1) := by decide +kernel
theorem dX6_take_83 : decode cX6_take 83 = .ok (.iload_n 2, 1) := by decide +kernel
theorem dX6_take_84 : decode cX6_take 84 = .ok (.iload_n 3, 1) := by decide +kernel
theorem dX6_take_85 : decode cX6_take 85 = .ok (.invokevirtual 129, 3) := by decide +kernel
theorem dX6_take_88 : decode cX6_take 88 = .ok (.ireturn, 1) := by decide +kernel
theorem dX6_take_89 : decode cX6_take 89 = .ok (.aload_n 0, 1) := by decide +kernel
theorem dX6_take_90 : decode cX6_take 90 = .ok (.iload_n 2, 1) := by decide +kernel
theorem dX6_take_91 : decode cX6_take 91 = .ok (.iload_n 3, 1) := by decide +kernel
theorem dX6_take_92 : decode cX6_take 92 = .ok (.invokevirtual 132, 3) := by decide +kernel
theorem dX6_take_95 : decode cX6_take 95 = .ok (.ireturn, 1) := by decide +kernel
theorem dX6_take_96 : decode cX6_take 96 = .ok (.aload_n 0, 1) := by decide +kernel
theorem dX6_take_97 : decode cX6_take 97 = .ok (.iload_n 2, 1) := by decide +kernel
theorem dX6_take_98 : decode cX6_take 98 = .ok (.iload_n 3, 1) := by decide +kernel
theorem dX6_take_99 : decode cX6_take 99 = .ok (.invokevirtual 135, 3) := by decide +kernel
theorem dX6_take_102 : decode cX6_take 102 = .ok (.ireturn, 1) := by decide +kernel
theorem dX6_take_103 : decode cX6_take 103 = .ok (.aload_n 0, 1) := by decide +kernel
theorem dX6_take_104 : decode cX6_take 104 = .ok (.iload_n 2, 1) := by decide +kernel
theorem dX6_take_105 : decode cX6_take 105 = .ok (.invokevirtual 138, 3) := by decide +kernel
theorem dX6_take_108 : decode cX6_take 108 = .ok (.ireturn, 1) := by decide +kernel
theorem dX6_take_109 : decode cX6_take 109 = .ok (.aload_n 0, 1) := by decide +kernel
theorem dX6_take_110 : decode cX6_take 110 = .ok (.iload_n 2, 1) := by decide +kernel
theorem dX6_take_111 : decode cX6_take 111 = .ok (.invokevirtual 141, 3) := by decide +kernel
theorem dX6_take_114 : decode cX6_take 114 = .ok (.ireturn, 1) := by decide +kernel
theorem dX6_take_115 : decode cX6_take 115 = .ok (.aload_n 0, 1) := by decide +kernel
theorem dX6_take_116 : decode cX6_take 116 = .ok (.iload_n 2, 1) := by decide +kernel
theorem dX6_take_117 : decode cX6_take 117 = .ok (.invokevirtual 144, 3) := by decide +kernel
theorem dX6_take_120 : decode cX6_take 120 = .ok (.ireturn, 1) := by decide +kernel
theorem dX6_take_121 : decode cX6_take 121 = .ok (.bipush (-3), 2) := by decide +kernel
theorem dX6_take_123 : decode cX6_take 123 = .ok (.ireturn, 1) := by decide +kernel
set_option maxHeartbeats 4000000 in
set_option maxRecDepth 100000 in
theorem c_X6_setTies (l : Launch) (g : GG) (a0 : Nat → Nat) (s0 : T6) (p1 : Int32) (hne : (m_X6_setTies s0 p1) ≠ none) : Ct l g yX6_setTies cX6_setTies 3 (some .int) ({ frames := 0, cells := 0, slots := 0, locals := 0 } : Room) [.ref (a0 0), .int p1] (wX6 a0 g s0) (Qi g .int (m_X6_setTies s0 p1) (fun u => u.1) (fun u => wX6 a0 g ((p6_raws s0), (p6_kinds s0), (p6_figures s0), (p6_heavies s0), (p6_places s0), (p6_papers s0), (p6_lowers s0), (p6_uppers s0), (p6_rules s0), (p6_bounds s0), (p6_boundCount s0), u.2, (p6_reached s0)))) 0 0 := by
  obtain ⟨out, hf⟩ := ne_ex hne
  have hf0 := hf
  refine Ct.of (own := RX6) (by decide +kernel) rfl (Nat.le_of_ble_eq_true rfl) ?_
  intro p e s m below meth c hx hb hr hml hown hts hlocks hin hK A H locs hA hP hD hS ls hl
  have hl : lv_has ls 3 [(0, .ref (a0 0)), (1, .int p1)] := hl
  unfold m_X6_setTies at hf
  refine lv_iload_n hx hb dX6_setTies_0 rfl (lv_at hl 1 rfl) ?_
  refine lv_if_lt (tgt := 9) hx hb dX6_setTies_1 (by decide) (fun cb => ?_) (fun cb => ?_)
  · have hf := it_t cb hf
    refine lv_bipush (v := (-2)) hx hb dX6_setTies_9 (by decide) ?_
    exact retI (u := ((-2 : Int32), (p6_tieWay s0))) hx hb hr hlocks hS hP hD (hf0.trans hf.symm) rfl rfl dX6_setTies_11
  have hf := it_f cb hf
  refine lv_iload_n hx hb dX6_setTies_4 rfl (lv_at hl 1 rfl) ?_
  refine lv_iconst (v := 2) hx hb dX6_setTies_5 (by decide) ?_
  refine lv_icmp_le (tgt := 12) hx hb dX6_setTies_6 (by decide) (fun cb => ?_) (fun cb => ?_)
  · have hf := it_t cb hf
    refine lv_aload_n hx hb dX6_setTies_12 rfl (lv_at hl 0 rfl) ?_
    refine va_get (D := g.1) (ci := 7) (v := .int (p6_tieWay s0)) (C := RX6) (T := TX6) (N := 13) hx hb hts layX6 hown hK.1 hP 0 rfl rfl 11 (by decide) (hts _ kw60) (fun _ h9 => h9) rfl dX6_setTies_13 ?_
    refine lv_istore_n (lv' := [(2, .int (p6_tieWay s0)), (0, .ref (a0 0)), (1, .int p1)]) hx hb dX6_setTies_16 rfl hl (by decide) rfl (fun ls hl => ?_)
    refine lv_aload_n hx hb dX6_setTies_17 rfl (lv_at hl 1 rfl) ?_
    refine lv_iload_n hx hb dX6_setTies_18 rfl (lv_at hl 2 rfl) ?_
    refine va_put (D := g.1) (ci := 7) (v := .int p1) (ty := .int) (C := RX6) (T := TX6) (N := 13) hx hb hts layX6 tyX6 tyX6_ok nmX6 hown hK.1 hP hD hS 0 rfl rfl 11 (by decide) (hts _ kw60) (fun _ h9 => h9) rfl (tyX6_ok 11 (by decide)) rfl rfl (Nat.le_of_ble_eq_true rfl) dX6_setTies_19 (fun H locs hP hD hS => ?_)
    have hP : va_P g.1 vwCl (wX6 a0 g ((p6_raws s0), (p6_kinds s0), (p6_figures s0), (p6_heavies s0), (p6_places s0), (p6_papers s0), (p6_lowers s0), (p6_uppers s0), (p6_rules s0), (p6_bounds s0), (p6_boundCount s0), p1, (p6_reached s0))) H := hP
    have hD : va_D A (wX6 a0 g ((p6_raws s0), (p6_kinds s0), (p6_figures s0), (p6_heavies s0), (p6_places s0), (p6_papers s0), (p6_lowers s0), (p6_uppers s0), (p6_rules s0), (p6_bounds s0), (p6_boundCount s0), p1, (p6_reached s0))) := hD
    refine lv_iload_n hx hb dX6_setTies_22 rfl (lv_at hl 0 rfl) ?_
    exact retI (u := ((p6_tieWay s0), p1)) hx hb hr hlocks hS hP hD (hf0.trans hf.symm) rfl rfl dX6_setTies_23
  have hf := it_f cb hf
  refine lv_bipush (v := (-2)) hx hb dX6_setTies_9 (by decide) ?_
  exact retI (u := ((-2 : Int32), (p6_tieWay s0))) hx hb hr hlocks hS hP hD (hf0.trans hf.symm) rfl rfl dX6_setTies_11
set_option maxHeartbeats 4000000 in
set_option maxRecDepth 100000 in
theorem c_X3_numberAt (l : Launch) (g : GG) (a0 : Nat → Nat) (s0 : T3) (p1 : Int32) (hne : (m_X3_numberAt s0 p1) ≠ none) : Ct l g yX3_numberAt cX3_numberAt 2 (some .int) ({ frames := 1, cells := 0, slots := 0, locals := 21 } : Room) [.ref (a0 0), .int p1] (wX3 a0 g s0) (Qi g .int (m_X3_numberAt s0 p1) (fun u => u) (fun u => wX3 a0 g s0)) 0 0 := by
  obtain ⟨out, hf⟩ := ne_ex hne
  have hf0 := hf
  refine Ct.of (own := RX3) (by decide +kernel) rfl (Nat.le_of_ble_eq_true rfl) ?_
  intro p e s m below meth c hx hb hr hml hown hts hlocks hin hK A H locs hA hP hD hS ls hl
  have hl : lv_has ls 2 [(0, .ref (a0 0)), (1, .int p1)] := hl
  unfold m_X3_numberAt at hf
  refine lv_aload_n hx hb dX3_numberAt_0 rfl (lv_at hl 0 rfl) ?_
  refine va_get (D := g.1) (ci := 4) (v := .ref (a0 3)) (C := RX3) (T := TX3) (N := 5) hx hb hts layX3 hown hK.1 hP 0 rfl rfl 1 (by decide) (hts _ kw84) (fun _ h9 => h9) rfl dX3_numberAt_1 ?_
  refine lv_iload_n hx hb dX3_numberAt_4 rfl (lv_at hl 1 rfl) ?_
  refine cIp hP hD hS hA (fun hPc hDc => rV (As := [.int p1]) (rest := []) hx hb hml hown hts hK (c_X2_get l g (fun i => a0 (i + 3)) 3 (p3_numbers s0) p1 (bnd_ne hf)) svV_X2_get kw321 rfl rfl hPc hDc rfl rfl hl.1 (Nat.le_of_ble_eq_true rfl) dX3_numberAt_5 ⟨Nat.le_of_ble_eq_true rfl, Nat.le_of_ble_eq_true rfl, rfl, rfl, Nat.le_of_ble_eq_true rfl, Nat.le_of_ble_eq_true rfl⟩) [(3, 2)] rfl rfl rfl (fun x1 H locs ex1 nx1 hP hS => ?_)
  have hf := bnd_of hf ex1
  exact retI (u := x1) hx hb hr hlocks hS hP hD (hf0.trans hf.symm) rfl rfl dX3_numberAt_8
set_option maxHeartbeats 4000000 in
set_option maxRecDepth 100000 in
theorem c_X3_wordRead (l : Launch) (g : GG) (a0 : Nat → Nat) (s0 : T3) (hne : (m_X3_wordRead s0) ≠ none) : Ct l g yX3_wordRead cX3_wordRead 1 (some .int) ({ frames := 0, cells := 0, slots := 0, locals := 0 } : Room) [.ref (a0 0)] (wX3 a0 g s0) (Qi g .int (m_X3_wordRead s0) (fun u => u) (fun u => wX3 a0 g s0)) 0 0 := by
  obtain ⟨out, hf⟩ := ne_ex hne
  have hf0 := hf
  refine Ct.of (own := RX3) (by decide +kernel) rfl (Nat.le_of_ble_eq_true rfl) ?_
  intro p e s m below meth c hx hb hr hml hown hts hlocks hin hK A H locs hA hP hD hS ls hl
  have hl : lv_has ls 1 [(0, .ref (a0 0))] := hl
  unfold m_X3_wordRead at hf
  refine lv_aload_n hx hb dX3_wordRead_0 rfl (lv_at hl 0 rfl) ?_
  refine va_get (D := g.1) (ci := 4) (v := .int (p3_word s0)) (C := RX3) (T := TX3) (N := 5) hx hb hts layX3 hown hK.1 hP 0 rfl rfl 4 (by decide) (hts _ kw87) (fun _ h9 => h9) rfl dX3_wordRead_1 ?_
  exact retI (u := (p3_word s0)) hx hb hr hlocks hS hP hD (hf0.trans hf.symm) rfl rfl dX3_wordRead_4
set_option maxHeartbeats 4000000 in
set_option maxRecDepth 100000 in
theorem c_X6_take (l : Launch) (g : GG) (a0 : Nat → Nat) (s0 : T6) (a1 : Nat → Nat) (s1 : T3) (hne : (m_X6_take s0 s1) ≠ none) : Ct l g yX6_take cX6_take 4 (some .int) ({ frames := 4, cells := 0, slots := 0, locals := 94 } : Room) [.ref (a0 0), .ref (a1 0)] (wX6 a0 g s0 ++ wX3 a1 g s1) (Qi g .int (m_X6_take s0 s1) (fun u => u.1) (fun u => wX6 a0 g (u.2.1, u.2.2.1, u.2.2.2.1, u.2.2.2.2.1, u.2.2.2.2.2.1, u.2.2.2.2.2.2.1, u.2.2.2.2.2.2.2.1, u.2.2.2.2.2.2.2.2.1, u.2.2.2.2.2.2.2.2.2.1, u.2.2.2.2.2.2.2.2.2.2.1, u.2.2.2.2.2.2.2.2.2.2.2.1, u.2.2.2.2.2.2.2.2.2.2.2.2.1, u.2.2.2.2.2.2.2.2.2.2.2.2.2) ++ wX3 a1 g s1)) 0 0 := by
  obtain ⟨out, hf⟩ := ne_ex hne
  have hf0 := hf
  refine Ct.of (own := RX6) (by decide +kernel) rfl (Nat.le_of_ble_eq_true rfl) ?_
  intro p e s m below meth c hx hb hr hml hown hts hlocks hin hK A H locs hA hP hD hS ls hl
  have hl : lv_has ls 4 [(0, .ref (a0 0)), (1, .ref (a1 0))] := hl
  unfold m_X6_take at hf
  refine lv_aload_n hx hb dX6_take_0 rfl (lv_at hl 1 rfl) ?_
  refine lv_iconst (v := 0) hx hb dX6_take_1 (by decide) ?_
  refine cIp hP hD hS hA (fun hPc hDc => rV (As := [.int (0 : Int32)]) (rest := []) hx hb hml hown hts hK (c_X3_numberAt l g a1 s1 (0 : Int32) (bnd_ne hf)) svV_X3_numberAt kw396 rfl rfl hPc hDc rfl rfl hl.1 (Nat.le_of_ble_eq_true rfl) dX6_take_2 ⟨Nat.le_of_ble_eq_true rfl, Nat.le_of_ble_eq_true rfl, rfl, rfl, Nat.le_of_ble_eq_true rfl, Nat.le_of_ble_eq_true rfl⟩) [(19, 5)] rfl rfl rfl (fun x1 H locs ex1 nx1 hP hS => ?_)
  have hf := bnd_of hf ex1
  refine lv_istore_n (lv' := [(2, .int x1), (0, .ref (a0 0)), (1, .ref (a1 0))]) hx hb dX6_take_5 rfl hl (by decide) rfl (fun ls hl => ?_)
  refine lv_aload_n hx hb dX6_take_6 rfl (lv_at hl 2 rfl) ?_
  refine lv_iconst (v := 1) hx hb dX6_take_7 (by decide) ?_
  refine cIp hP hD hS hA (fun hPc hDc => rV (As := [.int (1 : Int32)]) (rest := []) hx hb hml hown hts hK (c_X3_numberAt l g a1 s1 (1 : Int32) (bnd_ne hf)) svV_X3_numberAt kw396 rfl rfl hPc hDc rfl rfl hl.1 (Nat.le_of_ble_eq_true rfl) dX6_take_8 ⟨Nat.le_of_ble_eq_true rfl, Nat.le_of_ble_eq_true rfl, rfl, rfl, Nat.le_of_ble_eq_true rfl, Nat.le_of_ble_eq_true rfl⟩) [(19, 5)] rfl rfl rfl (fun x2 H locs ex2 nx2 hP hS => ?_)
  have hf := bnd_of hf ex2
  refine lv_istore_n (lv' := [(3, .int x2), (2, .int x1), (0, .ref (a0 0)), (1, .ref (a1 0))]) hx hb dX6_take_11 rfl hl (by decide) rfl (fun ls hl => ?_)
  refine lv_aload_n hx hb dX6_take_12 rfl (lv_at hl 3 rfl) ?_
  refine cIp hP hD hS hA (fun hPc hDc => rV (As := []) (rest := []) hx hb hml hown hts hK (c_X3_wordRead l g a1 s1 (bnd_ne hf)) svV_X3_wordRead kw400 rfl rfl hPc hDc rfl rfl hl.1 (Nat.le_of_ble_eq_true rfl) dX6_take_13 ⟨Nat.le_of_ble_eq_true rfl, Nat.le_of_ble_eq_true rfl, rfl, rfl, Nat.le_of_ble_eq_true rfl, Nat.le_of_ble_eq_true rfl⟩) [(19, 5)] rfl rfl rfl (fun x3 H locs ex3 nx3 hP hS => ?_)
  have hf := bnd_of hf ex3
  by_cases c0 : x3 = (0 : Int32)
  · have hf := it_t c0 hf
    refine lv_tableIn (off := 48) (tgt := 64) hx hb dX6_take_16 (by rw [c0]; decide) (by rw [c0]; decide) (by rw [c0]; rfl) (by decide) ?_
    refine lv_aload_n hx hb dX6_take_64 rfl (lv_at hl 2 rfl) ?_
    refine lv_iload_n hx hb dX6_take_65 rfl (lv_at hl 1 rfl) ?_
    refine cI hP hD hS hA (fun hPc hDc => rV (As := [.int x1]) (rest := []) hx hb hml hown hts hK (c_X6_addPaper l g a0 s0 x1 (bnd_ne hf)) svV_X6_addPaper kw404 rfl rfl hPc hDc rfl rfl hl.1 (Nat.le_of_ble_eq_true rfl) dX6_take_66 ⟨Nat.le_of_ble_eq_true rfl, Nat.le_of_ble_eq_true rfl, rfl, rfl, Nat.le_of_ble_eq_true rfl, Nat.le_of_ble_eq_true rfl⟩) [(0, 19)] rfl rfl rfl (fun _ => rfl) (fun x4 H locs ex4 nx4 hP hD hS => ?_)
    have hf := bnd_of hf ex4
    have hP : va_P g.1 vwCl (wX6 a0 g (x4.2.1, x4.2.2.1, x4.2.2.2.1, x4.2.2.2.2.1, x4.2.2.2.2.2.1, x4.2.2.2.2.2.2, (p6_lowers s0), (p6_uppers s0), (p6_rules s0), (p6_bounds s0), (p6_boundCount s0), (p6_tieWay s0), (p6_reached s0)) ++ wX3 a1 g s1) H := hP
    have hD : va_D A (wX6 a0 g (x4.2.1, x4.2.2.1, x4.2.2.2.1, x4.2.2.2.2.1, x4.2.2.2.2.2.1, x4.2.2.2.2.2.2, (p6_lowers s0), (p6_uppers s0), (p6_rules s0), (p6_bounds s0), (p6_boundCount s0), (p6_tieWay s0), (p6_reached s0)) ++ wX3 a1 g s1) := hD
    exact retI (u := (x4.1, x4.2.1, x4.2.2.1, x4.2.2.2.1, x4.2.2.2.2.1, x4.2.2.2.2.2.1, x4.2.2.2.2.2.2, (p6_lowers s0), (p6_uppers s0), (p6_rules s0), (p6_bounds s0), (p6_boundCount s0), (p6_tieWay s0), (p6_reached s0))) hx hb hr hlocks hS hP hD (hf0.trans hf.symm) rfl rfl dX6_take_69
  have hf := it_f c0 hf
  by_cases c1 : x3 = (1 : Int32)
  · have hf := it_t c1 hf
    refine lv_tableIn (off := 54) (tgt := 70) hx hb dX6_take_16 (by rw [c1]; decide) (by rw [c1]; decide) (by rw [c1]; rfl) (by decide) ?_
    refine lv_aload_n hx hb dX6_take_70 rfl (lv_at hl 2 rfl) ?_
    refine lv_iload_n hx hb dX6_take_71 rfl (lv_at hl 1 rfl) ?_
    refine lv_iload_n hx hb dX6_take_72 rfl (lv_at hl 0 rfl) ?_
    refine lv_aload_n hx hb dX6_take_73 rfl (lv_at hl 3 rfl) ?_
    refine lv_iconst (v := 2) hx hb dX6_take_74 (by decide) ?_
    refine cIp hP hD hS hA (fun hPc hDc => rV (As := [.int (2 : Int32)]) (rest := [.int x2, .int x1, .ref (a0 0)]) hx hb hml hown hts hK (c_X3_numberAt l g a1 s1 (2 : Int32) (bnd_ne hf)) svV_X3_numberAt kw396 rfl rfl hPc hDc rfl rfl hl.1 (Nat.le_of_ble_eq_true rfl) dX6_take_75 ⟨Nat.le_of_ble_eq_true rfl, Nat.le_of_ble_eq_true rfl, rfl, rfl, Nat.le_of_ble_eq_true rfl, Nat.le_of_ble_eq_true rfl⟩) [(19, 5)] rfl rfl rfl (fun x5 H locs ex5 nx5 hP hS => ?_)
    have hf := bnd_of hf ex5
    refine cI hP hD hS hA (fun hPc hDc => rV (As := [.int x1, .int x2, .int x5]) (rest := []) hx hb hml hown hts hK (c_X6_setKind l g a0 s0 x1 x2 x5 (bnd_ne hf)) svV_X6_setKind kw409 rfl rfl hPc hDc rfl rfl hl.1 (Nat.le_of_ble_eq_true rfl) dX6_take_78 ⟨Nat.le_of_ble_eq_true rfl, Nat.le_of_ble_eq_true rfl, rfl, rfl, Nat.le_of_ble_eq_true rfl, Nat.le_of_ble_eq_true rfl⟩) [(0, 19)] rfl rfl rfl (fun _ => rfl) (fun x6 H locs ex6 nx6 hP hD hS => ?_)
    have hf := bnd_of hf ex6
    have hP : va_P g.1 vwCl (wX6 a0 g ((p6_raws s0), x6.2.1, x6.2.2, (p6_heavies s0), (p6_places s0), (p6_papers s0), (p6_lowers s0), (p6_uppers s0), (p6_rules s0), (p6_bounds s0), (p6_boundCount s0), (p6_tieWay s0), (p6_reached s0)) ++ wX3 a1 g s1) H := hP
    have hD : va_D A (wX6 a0 g ((p6_raws s0), x6.2.1, x6.2.2, (p6_heavies s0), (p6_places s0), (p6_papers s0), (p6_lowers s0), (p6_uppers s0), (p6_rules s0), (p6_bounds s0), (p6_boundCount s0), (p6_tieWay s0), (p6_reached s0)) ++ wX3 a1 g s1) := hD
    exact retI (u := (x6.1, (p6_raws s0), x6.2.1, x6.2.2, (p6_heavies s0), (p6_places s0), (p6_papers s0), (p6_lowers s0), (p6_uppers s0), (p6_rules s0), (p6_bounds s0), (p6_boundCount s0), (p6_tieWay s0), (p6_reached s0))) hx hb hr hlocks hS hP hD (hf0.trans hf.symm) rfl rfl dX6_take_81
  have hf := it_f c1 hf
  by_cases c2 : x3 = (2 : Int32)
  · have hf := it_t c2 hf
    refine lv_tableIn (off := 66) (tgt := 82) hx hb dX6_take_16 (by rw [c2]; decide) (by rw [c2]; decide) (by rw [c2]; rfl) (by decide) ?_
    refine lv_aload_n hx hb dX6_take_82 rfl (lv_at hl 2 rfl) ?_
    refine lv_iload_n hx hb dX6_take_83 rfl (lv_at hl 1 rfl) ?_
    refine lv_iload_n hx hb dX6_take_84 rfl (lv_at hl 0 rfl) ?_
    refine cI hP hD hS hA (fun hPc hDc => rV (As := [.int x1, .int x2]) (rest := []) hx hb hml hown hts hK (c_X6_setHeavy l g a0 s0 x1 x2 (bnd_ne hf)) svV_X6_setHeavy kw418 rfl rfl hPc hDc rfl rfl hl.1 (Nat.le_of_ble_eq_true rfl) dX6_take_85 ⟨Nat.le_of_ble_eq_true rfl, Nat.le_of_ble_eq_true rfl, rfl, rfl, Nat.le_of_ble_eq_true rfl, Nat.le_of_ble_eq_true rfl⟩) [(0, 19)] rfl rfl rfl (fun _ => rfl) (fun x7 H locs ex7 nx7 hP hD hS => ?_)
    have hf := bnd_of hf ex7
    have hP : va_P g.1 vwCl (wX6 a0 g ((p6_raws s0), (p6_kinds s0), (p6_figures s0), x7.2, (p6_places s0), (p6_papers s0), (p6_lowers s0), (p6_uppers s0), (p6_rules s0), (p6_bounds s0), (p6_boundCount s0), (p6_tieWay s0), (p6_reached s0)) ++ wX3 a1 g s1) H := hP
    have hD : va_D A (wX6 a0 g ((p6_raws s0), (p6_kinds s0), (p6_figures s0), x7.2, (p6_places s0), (p6_papers s0), (p6_lowers s0), (p6_uppers s0), (p6_rules s0), (p6_bounds s0), (p6_boundCount s0), (p6_tieWay s0), (p6_reached s0)) ++ wX3 a1 g s1) := hD
    exact retI (u := (x7.1, (p6_raws s0), (p6_kinds s0), (p6_figures s0), x7.2, (p6_places s0), (p6_papers s0), (p6_lowers s0), (p6_uppers s0), (p6_rules s0), (p6_bounds s0), (p6_boundCount s0), (p6_tieWay s0), (p6_reached s0))) hx hb hr hlocks hS hP hD (hf0.trans hf.symm) rfl rfl dX6_take_88
  have hf := it_f c2 hf
  by_cases c3 : x3 = (3 : Int32)
  · have hf := it_t c3 hf
    refine lv_tableIn (off := 73) (tgt := 89) hx hb dX6_take_16 (by rw [c3]; decide) (by rw [c3]; decide) (by rw [c3]; rfl) (by decide) ?_
    refine lv_aload_n hx hb dX6_take_89 rfl (lv_at hl 2 rfl) ?_
    refine lv_iload_n hx hb dX6_take_90 rfl (lv_at hl 1 rfl) ?_
    refine lv_iload_n hx hb dX6_take_91 rfl (lv_at hl 0 rfl) ?_
    refine cI hP hD hS hA (fun hPc hDc => rV (As := [.int x1, .int x2]) (rest := []) hx hb hml hown hts hK (c_X6_setPlace l g a0 s0 x1 x2 (bnd_ne hf)) svV_X6_setPlace kw425 rfl rfl hPc hDc rfl rfl hl.1 (Nat.le_of_ble_eq_true rfl) dX6_take_92 ⟨Nat.le_of_ble_eq_true rfl, Nat.le_of_ble_eq_true rfl, rfl, rfl, Nat.le_of_ble_eq_true rfl, Nat.le_of_ble_eq_true rfl⟩) [(0, 19)] rfl rfl rfl (fun _ => rfl) (fun x8 H locs ex8 nx8 hP hD hS => ?_)
    have hf := bnd_of hf ex8
    have hP : va_P g.1 vwCl (wX6 a0 g ((p6_raws s0), (p6_kinds s0), (p6_figures s0), (p6_heavies s0), x8.2, (p6_papers s0), (p6_lowers s0), (p6_uppers s0), (p6_rules s0), (p6_bounds s0), (p6_boundCount s0), (p6_tieWay s0), (p6_reached s0)) ++ wX3 a1 g s1) H := hP
    have hD : va_D A (wX6 a0 g ((p6_raws s0), (p6_kinds s0), (p6_figures s0), (p6_heavies s0), x8.2, (p6_papers s0), (p6_lowers s0), (p6_uppers s0), (p6_rules s0), (p6_bounds s0), (p6_boundCount s0), (p6_tieWay s0), (p6_reached s0)) ++ wX3 a1 g s1) := hD
    exact retI (u := (x8.1, (p6_raws s0), (p6_kinds s0), (p6_figures s0), (p6_heavies s0), x8.2, (p6_papers s0), (p6_lowers s0), (p6_uppers s0), (p6_rules s0), (p6_bounds s0), (p6_boundCount s0), (p6_tieWay s0), (p6_reached s0))) hx hb hr hlocks hS hP hD (hf0.trans hf.symm) rfl rfl dX6_take_95
  have hf := it_f c3 hf
  by_cases c4 : x3 = (4 : Int32)
  · have hf := it_t c4 hf
    refine lv_tableIn (off := 80) (tgt := 96) hx hb dX6_take_16 (by rw [c4]; decide) (by rw [c4]; decide) (by rw [c4]; rfl) (by decide) ?_
    refine lv_aload_n hx hb dX6_take_96 rfl (lv_at hl 2 rfl) ?_
    refine lv_iload_n hx hb dX6_take_97 rfl (lv_at hl 1 rfl) ?_
    refine lv_iload_n hx hb dX6_take_98 rfl (lv_at hl 0 rfl) ?_
    refine cI hP hD hS hA (fun hPc hDc => rV (As := [.int x1, .int x2]) (rest := []) hx hb hml hown hts hK (c_X6_addRule l g a0 s0 x1 x2 (bnd_ne hf)) svV_X6_addRule kw429 rfl rfl hPc hDc rfl rfl hl.1 (Nat.le_of_ble_eq_true rfl) dX6_take_99 ⟨Nat.le_of_ble_eq_true rfl, Nat.le_of_ble_eq_true rfl, rfl, rfl, Nat.le_of_ble_eq_true rfl, Nat.le_of_ble_eq_true rfl⟩) [(0, 19)] rfl rfl rfl (fun _ => rfl) (fun x9 H locs ex9 nx9 hP hD hS => ?_)
    have hf := bnd_of hf ex9
    have hP : va_P g.1 vwCl (wX6 a0 g ((p6_raws s0), (p6_kinds s0), (p6_figures s0), (p6_heavies s0), (p6_places s0), (p6_papers s0), x9.2.1, x9.2.2.1, x9.2.2.2.1, (p6_bounds s0), (p6_boundCount s0), (p6_tieWay s0), x9.2.2.2.2) ++ wX3 a1 g s1) H := hP
    have hD : va_D A (wX6 a0 g ((p6_raws s0), (p6_kinds s0), (p6_figures s0), (p6_heavies s0), (p6_places s0), (p6_papers s0), x9.2.1, x9.2.2.1, x9.2.2.2.1, (p6_bounds s0), (p6_boundCount s0), (p6_tieWay s0), x9.2.2.2.2) ++ wX3 a1 g s1) := hD
    exact retI (u := (x9.1, (p6_raws s0), (p6_kinds s0), (p6_figures s0), (p6_heavies s0), (p6_places s0), (p6_papers s0), x9.2.1, x9.2.2.1, x9.2.2.2.1, (p6_bounds s0), (p6_boundCount s0), (p6_tieWay s0), x9.2.2.2.2)) hx hb hr hlocks hS hP hD (hf0.trans hf.symm) rfl rfl dX6_take_102
  have hf := it_f c4 hf
  by_cases c5 : x3 = (5 : Int32)
  · have hf := it_t c5 hf
    refine lv_tableIn (off := 87) (tgt := 103) hx hb dX6_take_16 (by rw [c5]; decide) (by rw [c5]; decide) (by rw [c5]; rfl) (by decide) ?_
    refine lv_aload_n hx hb dX6_take_103 rfl (lv_at hl 2 rfl) ?_
    refine lv_iload_n hx hb dX6_take_104 rfl (lv_at hl 1 rfl) ?_
    refine cI hP hD hS hA (fun hPc hDc => rV (As := [.int x1]) (rest := []) hx hb hml hown hts hK (c_X6_takeRule l g a0 s0 x1 (bnd_ne hf)) svV_X6_takeRule kw450 rfl rfl hPc hDc rfl rfl hl.1 (Nat.le_of_ble_eq_true rfl) dX6_take_105 ⟨Nat.le_of_ble_eq_true rfl, Nat.le_of_ble_eq_true rfl, rfl, rfl, Nat.le_of_ble_eq_true rfl, Nat.le_of_ble_eq_true rfl⟩) [(0, 19)] rfl rfl rfl (fun _ => rfl) (fun x10 H locs ex10 nx10 hP hD hS => ?_)
    have hf := bnd_of hf ex10
    have hP : va_P g.1 vwCl (wX6 a0 g ((p6_raws s0), (p6_kinds s0), (p6_figures s0), (p6_heavies s0), (p6_places s0), (p6_papers s0), x10.2.1, x10.2.2.1, x10.2.2.2, (p6_bounds s0), (p6_boundCount s0), (p6_tieWay s0), (p6_reached s0)) ++ wX3 a1 g s1) H := hP
    have hD : va_D A (wX6 a0 g ((p6_raws s0), (p6_kinds s0), (p6_figures s0), (p6_heavies s0), (p6_places s0), (p6_papers s0), x10.2.1, x10.2.2.1, x10.2.2.2, (p6_bounds s0), (p6_boundCount s0), (p6_tieWay s0), (p6_reached s0)) ++ wX3 a1 g s1) := hD
    exact retI (u := (x10.1, (p6_raws s0), (p6_kinds s0), (p6_figures s0), (p6_heavies s0), (p6_places s0), (p6_papers s0), x10.2.1, x10.2.2.1, x10.2.2.2, (p6_bounds s0), (p6_boundCount s0), (p6_tieWay s0), (p6_reached s0))) hx hb hr hlocks hS hP hD (hf0.trans hf.symm) rfl rfl dX6_take_108
  have hf := it_f c5 hf
  by_cases c6 : x3 = (6 : Int32)
  · have hf := it_t c6 hf
    refine lv_tableIn (off := 93) (tgt := 109) hx hb dX6_take_16 (by rw [c6]; decide) (by rw [c6]; decide) (by rw [c6]; rfl) (by decide) ?_
    refine lv_aload_n hx hb dX6_take_109 rfl (lv_at hl 2 rfl) ?_
    refine lv_iload_n hx hb dX6_take_110 rfl (lv_at hl 1 rfl) ?_
    refine cI hP hD hS hA (fun hPc hDc => rV (As := [.int x1]) (rest := []) hx hb hml hown hts hK (c_X6_addLimit l g a0 s0 x1 (bnd_ne hf)) svV_X6_addLimit kw463 rfl rfl hPc hDc rfl rfl hl.1 (Nat.le_of_ble_eq_true rfl) dX6_take_111 ⟨Nat.le_of_ble_eq_true rfl, Nat.le_of_ble_eq_true rfl, rfl, rfl, Nat.le_of_ble_eq_true rfl, Nat.le_of_ble_eq_true rfl⟩) [(0, 19)] rfl rfl rfl (fun _ => rfl) (fun x11 H locs ex11 nx11 hP hD hS => ?_)
    have hf := bnd_of hf ex11
    have hP : va_P g.1 vwCl (wX6 a0 g ((p6_raws s0), (p6_kinds s0), (p6_figures s0), (p6_heavies s0), (p6_places s0), (p6_papers s0), (p6_lowers s0), (p6_uppers s0), (p6_rules s0), x11.2.1, x11.2.2, (p6_tieWay s0), (p6_reached s0)) ++ wX3 a1 g s1) H := hP
    have hD : va_D A (wX6 a0 g ((p6_raws s0), (p6_kinds s0), (p6_figures s0), (p6_heavies s0), (p6_places s0), (p6_papers s0), (p6_lowers s0), (p6_uppers s0), (p6_rules s0), x11.2.1, x11.2.2, (p6_tieWay s0), (p6_reached s0)) ++ wX3 a1 g s1) := hD
    exact retI (u := (x11.1, (p6_raws s0), (p6_kinds s0), (p6_figures s0), (p6_heavies s0), (p6_places s0), (p6_papers s0), (p6_lowers s0), (p6_uppers s0), (p6_rules s0), x11.2.1, x11.2.2, (p6_tieWay s0), (p6_reached s0))) hx hb hr hlocks hS hP hD (hf0.trans hf.symm) rfl rfl dX6_take_114
  have hf := it_f c6 hf
  by_cases c7 : x3 = (7 : Int32)
  · have hf := it_t c7 hf
    refine lv_tableIn (off := 99) (tgt := 115) hx hb dX6_take_16 (by rw [c7]; decide) (by rw [c7]; decide) (by rw [c7]; rfl) (by decide) ?_
    refine lv_aload_n hx hb dX6_take_115 rfl (lv_at hl 2 rfl) ?_
    refine lv_iload_n hx hb dX6_take_116 rfl (lv_at hl 1 rfl) ?_
    refine cI hP hD hS hA (fun hPc hDc => rV (As := [.int x1]) (rest := []) hx hb hml hown hts hK (c_X6_setTies l g a0 s0 x1 (bnd_ne hf)) svV_X6_setTies kw467 rfl rfl hPc hDc rfl rfl hl.1 (Nat.le_of_ble_eq_true rfl) dX6_take_117 ⟨Nat.le_of_ble_eq_true rfl, Nat.le_of_ble_eq_true rfl, rfl, rfl, Nat.le_of_ble_eq_true rfl, Nat.le_of_ble_eq_true rfl⟩) [(0, 19)] rfl rfl rfl (fun _ => rfl) (fun x12 H locs ex12 nx12 hP hD hS => ?_)
    have hf := bnd_of hf ex12
    have hP : va_P g.1 vwCl (wX6 a0 g ((p6_raws s0), (p6_kinds s0), (p6_figures s0), (p6_heavies s0), (p6_places s0), (p6_papers s0), (p6_lowers s0), (p6_uppers s0), (p6_rules s0), (p6_bounds s0), (p6_boundCount s0), x12.2, (p6_reached s0)) ++ wX3 a1 g s1) H := hP
    have hD : va_D A (wX6 a0 g ((p6_raws s0), (p6_kinds s0), (p6_figures s0), (p6_heavies s0), (p6_places s0), (p6_papers s0), (p6_lowers s0), (p6_uppers s0), (p6_rules s0), (p6_bounds s0), (p6_boundCount s0), x12.2, (p6_reached s0)) ++ wX3 a1 g s1) := hD
    exact retI (u := (x12.1, (p6_raws s0), (p6_kinds s0), (p6_figures s0), (p6_heavies s0), (p6_places s0), (p6_papers s0), (p6_lowers s0), (p6_uppers s0), (p6_rules s0), (p6_bounds s0), (p6_boundCount s0), x12.2, (p6_reached s0))) hx hb hr hlocks hS hP hD (hf0.trans hf.symm) rfl rfl dX6_take_120
  have hf := it_f c7 hf
  refine lv_tableOut (tgt := 121) hx hb dX6_take_16 (by have q0 := lv_neT c0 (a := 0) rfl; have q1 := lv_neT c1 (a := 1) rfl; have q2 := lv_neT c2 (a := 2) rfl; have q3 := lv_neT c3 (a := 3) rfl; have q4 := lv_neT c4 (a := 4) rfl; have q5 := lv_neT c5 (a := 5) rfl; have q6 := lv_neT c6 (a := 6) rfl; have q7 := lv_neT c7 (a := 7) rfl; omega) (by decide) ?_
  refine lv_bipush (v := (-3)) hx hb dX6_take_121 (by decide) ?_
  exact retI (u := ((-3 : Int32), (p6_raws s0), (p6_kinds s0), (p6_figures s0), (p6_heavies s0), (p6_places s0), (p6_papers s0), (p6_lowers s0), (p6_uppers s0), (p6_rules s0), (p6_bounds s0), (p6_boundCount s0), (p6_tieWay s0), (p6_reached s0))) hx hb hr hlocks hS hP hD (hf0.trans hf.symm) rfl rfl dX6_take_123
