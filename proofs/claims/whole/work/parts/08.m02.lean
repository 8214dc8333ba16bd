theorem svS_X9_markBy : SS RX9 yX9_markBy cX9_markBy 3 (some .int) 3 := ⟨kw563, kw1, kw564, rfl, by decide, by decide, by decide +kernel⟩
theorem dX6_rawOf_0 : decode cX6_rawOf 0 = .ok (.aload_n 0, 1) := by decide +kernel
theorem dX6_rawOf_1 : decode cX6_rawOf 1 = .ok (.getfield 14, 3) := by decide +kernel
theorem dX6_rawOf_4 : decode cX6_rawOf 4 = .ok (.iload_n 1, 1) := by decide +kernel
theorem dX6_rawOf_5 : decode cX6_rawOf 5 = .ok (.invokevirtual 65, 3) := by decide +kernel
theorem dX6_rawOf_8 : decode cX6_rawOf 8 = .ok (.ireturn, 1) := by decide +kernel
theorem dX6_kindOf_0 : decode cX6_kindOf 0 = .ok (.aload_n 0, 1) := by decide +kernel
theorem dX6_kindOf_1 : decode cX6_kindOf 1 = .ok (.getfield 20, 3) := by decide +kernel
theorem dX6_kindOf_4 : decode cX6_kindOf 4 = .ok (.iload_n 1, 1) := by decide +kernel
theorem dX6_kindOf_5 : decode cX6_kindOf 5 = .ok (.invokevirtual 65, 3) := by decide +kernel
theorem dX6_kindOf_8 : decode cX6_kindOf 8 = .ok (.ireturn, 1) := by decide +kernel
theorem dX6_figureOf_0 : decode cX6_figureOf 0 = .ok (.aload_n 0, 1) := by decide +kernel
theorem dX6_figureOf_1 : decode cX6_figureOf 1 = .ok (.getfield 23, 3) := by decide +kernel
theorem dX6_figureOf_4 : decode cX6_figureOf 4 = .ok (.iload_n 1, 1) := by decide +kernel
theorem dX6_figureOf_5 : decode cX6_figureOf 5 = .ok (.invokevirtual 65, 3) := by decide +kernel
theorem dX6_figureOf_8 : decode cX6_figureOf 8 = .ok (.ireturn, 1) := by decide +kernel
theorem dX6_heavyOf_0 : decode cX6_heavyOf 0 = .ok (.aload_n 0, 1) := by decide +kernel
theorem dX6_heavyOf_1 : decode cX6_heavyOf 1 = .ok (.getfield 26, 3) := by decide +kernel
theorem dX6_heavyOf_4 : decode cX6_heavyOf 4 = .ok (.iload_n 1, 1) := by decide +kernel
theorem dX6_heavyOf_5 : decode cX6_heavyOf 5 = .ok (.invokevirtual 65, 3) := by decide +kernel
theorem dX6_heavyOf_8 : decode cX6_heavyOf 8 = .ok (.ireturn, 1) := by decide +kernel
theorem dX6_placeOf_0 : decode cX6_placeOf 0 = .ok (.aload_n 0, 1) := by decide +kernel
theorem dX6_placeOf_1 : decode cX6_placeOf 1 = .ok (.getfield 29, 3) := by decide +kernel
theorem dX6_placeOf_4 : decode cX6_placeOf 4 = .ok (.iload_n 1, 1) := by decide +kernel
theorem dX6_placeOf_5 : decode cX6_placeOf 5 = .ok (.invokevirtual 65, 3) := by decide +kernel
theorem dX6_placeOf_8 : decode cX6_placeOf 8 = .ok (.ireturn, 1) := by decide +kernel
theorem dX9_markBy_0 : decode cX9_markBy 0 = .ok (.iload_n 0, 1) := by decide +kernel
theorem dX9_markBy_1 : decode cX9_markBy 1 = .ok (.tableswitch 77 1 4 #[31, 52, 62, 35], 31) := by decide +kernel
theorem dX9_markBy_32 : decode cX9_markBy 32 = .ok (.iload_n 1, 1) := by decide +kernel
theorem dX9_markBy_33 : decode cX9_markBy 33 = .ok (.iload_n 2, 1) := by decide +kernel
theorem dX9_markBy_34 : decode cX9_markBy 34 = .ok (.iadd, 1) := by decide +kernel
theorem dX9_markBy_35 : decode cX9_markBy 35 = .ok (.ireturn, 1) := by decide +kernel
theorem dX9_markBy_53 : decode cX9_markBy 53 = .ok (.iconst 0, 1) := by decide +kernel
theorem dX9_markBy_54 : decode cX9_markBy 54 = .ok (.iload_n 1, 1) := by decide +kernel
theorem dX9_markBy_55 : decode cX9_markBy 55 = .ok (.iconst 3, 1) := by decide +kernel
theorem dX9_markBy_56 : decode cX9_markBy 56 = .ok (.iload_n 2, 1) := by decide +kernel
theorem dX9_markBy_57 : decode cX9_markBy 57 = .ok (.imul, 1) := by decide +kernel
theorem dX9_markBy_58 : decode cX9_markBy 58 = .ok (.isub, 1) := by decide +kernel
theorem dX9_markBy_59 : decode cX9_markBy 59 = .ok (.invokestatic 431, 3) := by decide +kernel
theorem dX9_markBy_62 : decode cX9_markBy 62 = .ok (.ireturn, 1) := by decide +kernel
theorem dX9_markBy_63 : decode cX9_markBy 63 = .ok (.bipush 50, 2) := by decide +kernel
theorem dX9_markBy_65 : decode cX9_markBy 65 = .ok (.iconst 0, 1) := by decide +kernel
theorem dX9_markBy_66 : decode cX9_markBy 66 = .ok (.iload_n 1, 1) := by decide +kernel
theorem dX9_markBy_67 : decode cX9_markBy 67 = .ok (.iconst 3, 1) := by decide +kernel
theorem dX9_markBy_68 : decode cX9_markBy 68 = .ok (.iload_n 2, 1) := by decide +kernel
theorem dX9_markBy_69 : decode cX9_markBy 69 = .ok (.imul, 1) := by decide +kernel
theorem dX9_markBy_70 : decode cX9_markBy 70 = .ok (.isub, 1) := by decide +kernel
theorem dX9_markBy_71 : decode cX9_markBy 71 = .ok (.invokestatic 431, 3) := by decide +kernel
theorem dX9_markBy_74 : decode cX9_markBy 74 = .ok (.invokestatic 374, 3) := by decide +kernel
theorem dX9_markBy_77 : decode cX9_markBy 77 = .ok (.ireturn, 1) := by decide +kernel
theorem dX9_markBy_36 : decode cX9_markBy 36 = .ok (.iload_n 1, 1) := by decide +kernel
theorem dX9_markBy_37 : decode cX9_markBy 37 = .ok (.iload_n 2, 1) := by decide +kernel
theorem dX9_markBy_38 : decode cX9_markBy 38 = .ok (.iadd, 1) := by decide +kernel
theorem dX9_markBy_39 : decode cX9_markBy 39 = .ok (.iload_n 1, 1) := by decide +kernel
theorem dX9_markBy_40 : decode cX9_markBy 40 = .ok (.bipush 70, 2) := by decide +kernel
theorem dX9_markBy_42 : decode cX9_markBy 42 = .ok (.if_icmp .lt 8, 3) := by decide +kernel
theorem dX9_markBy_50 : decode cX9_markBy 50 = .ok (.iconst 0, 1) := by decide +kernel
theorem dX9_markBy_51 : decode cX9_markBy 51 = .ok (.iadd, 1) := by decide +kernel
theorem dX9_markBy_52 : decode cX9_markBy 52 = .ok (.ireturn, 1) := by decide +kernel
theorem dX9_markBy_45 : decode cX9_markBy 45 = .ok (.bipush 10, 2) := by decide +kernel
theorem dX9_markBy_47 : decode cX9_markBy 47 = .ok (.goto 4, 3) := by decide +kernel
theorem dX9_markBy_78 : decode cX9_markBy 78 = .ok (.iload_n 1, 1) := by decide +kernel
theorem dX9_markBy_79 : decode cX9_markBy 79 = .ok (.ireturn, 1) := by decide +kernel
theorem dX6_markOf_0 : decode cX6_markOf 0 = .ok (.aload_n 0, 1) := by decide +kernel
theorem dX6_markOf_1 : decode cX6_markOf 1 = .ok (.getfield 20, 3) := by decide +kernel
theorem dX6_markOf_4 : decode cX6_markOf 4 = .ok (.iload_n 1, 1) := by decide +kernel
theorem dX6_markOf_5 : decode cX6_markOf 5 = .ok (.invokevirtual 65, 3) := by decide +kernel
theorem dX6_markOf_8 : decode cX6_markOf 8 = .ok (.aload_n 0, 1) := by decide +kernel
theorem dX6_markOf_9 : decode cX6_markOf 9 = .ok (.getfield 14, 3) := by decide +kernel
theorem dX6_markOf_12 : decode cX6_markOf 12 = .ok (.iload_n 1, 1) := by decide +kernel
theorem dX6_markOf_13 : decode cX6_markOf 13 = .ok (.invokevirtual 65, 3) := by decide +kernel
theorem dX6_markOf_16 : decode cX6_markOf 16 = .ok (.aload_n 0, 1) := by decide +kernel
theorem dX6_markOf_17 : decode cX6_markOf 17 = .ok (.getfield 23, 3) := by decide +kernel
theorem dX6_markOf_20 : decode cX6_markOf 20 = .ok (.iload_n 1, 1) := by decide +kernel
theorem dX6_markOf_21 : decode cX6_markOf 21 = .ok (.invokevirtual 65, 3) := by decide +kernel
theorem dX6_markOf_24 : decode cX6_markOf 24 = .ok (.invokestatic 69, 3) := by decide +kernel
theorem dX6_markOf_27 : decode cX6_markOf 27 = .ok (.ireturn, 1) := by decide +kernel
theorem dX9_weightBy_0 : decode cX9_weightBy 0 = .ok (.iload_n 0, 1) := by decide +kernel
theorem dX9_weightBy_1 : decode cX9_weightBy 1 = .ok (.tableswitch 49 2 5 #[31, 37, 49, 45], 31) := by decide +kernel
theorem dX9_weightBy_32 : decode cX9_weightBy 32 = .ok (.iload_n 1, 1) := by decide +kernel
theorem dX9_weightBy_33 : decode cX9_weightBy 33 = .ok (.iconst 1, 1) := by decide +kernel
theorem dX9_weightBy_34 : decode cX9_weightBy 34 = .ok (.iadd, 1) := by decide +kernel
theorem dX9_weightBy_35 : decode cX9_weightBy 35 = .ok (.iconst 2, 1) := by decide +kernel
theorem dX9_weightBy_36 : decode cX9_weightBy 36 = .ok (.idiv, 1) := by decide +kernel
theorem dX9_weightBy_37 : decode cX9_weightBy 37 = .ok (.ireturn, 1) := by decide +kernel
theorem dX9_weightBy_38 : decode cX9_weightBy 38 = .ok (.iload_n 1, 1) := by decide +kernel
theorem dX9_weightBy_39 : decode cX9_weightBy 39 = .ok (.iconst 1, 1) := by decide +kernel
theorem dX9_weightBy_40 : decode cX9_weightBy 40 = .ok (.iadd, 1) := by decide +kernel
theorem dX9_weightBy_41 : decode cX9_weightBy 41 = .ok (.iconst 2, 1) := by decide +kernel
theorem dX9_weightBy_42 : decode cX9_weightBy 42 = .ok (.idiv, 1) := by decide +kernel
theorem dX9_weightBy_43 : decode cX9_weightBy 43 = .ok (.iconst 1, 1) := by decide +kernel
theorem dX9_weightBy_44 : decode cX9_weightBy 44 = .ok (.iadd, 1) := by decide +kernel
theorem dX9_weightBy_45 : decode cX9_weightBy 45 = .ok (.ireturn, 1) := by decide +kernel
theorem dX9_weightBy_46 : decode cX9_weightBy 46 = .ok (.iconst 2, 1) := by decide +kernel
theorem dX9_weightBy_47 : decode cX9_weightBy 47 = .ok (.iload_n 1, 1) := by decide +kernel
theorem dX9_weightBy_48 : decode cX9_weightBy 48 = .ok (.imul, 1) := by decide +kernel
theorem dX9_weightBy_49 : decode cX9_weightBy 49 = .ok (.ireturn, 1) := by decide +kernel
theorem dX9_weightBy_50 : decode cX9_weightBy 50 = .ok (.iload_n 1, 1) := by decide +kernel
theorem dX9_weightBy_51 : decode cX9_weightBy 51 = .ok (.ireturn, 1) := by decide +kernel
set_option maxHeartbeats 4000000 in
set_option maxRecDepth 100000 in
theorem c_X6_rawOf (l : Launch) (g : GG) (a0 : Nat → Nat) (s0 : T6) (p1 : Int32) (hne : (m_X6_rawOf s0 p1) ≠ none) : Ct l g yX6_rawOf cX6_rawOf 2 (some .int) ({ frames := 1, cells := 0, slots := 0, locals := 21 } : Room) [.ref (a0 0), .int p1] (wX6 a0 g s0) (Qi g .int (m_X6_rawOf s0 p1) (fun u => u) (fun u => wX6 a0 g s0)) 0 0 := by
  obtain ⟨out, hf⟩ := ne_ex hne
  have hf0 := hf
  refine Ct.of (own := RX6) (by decide +kernel) rfl (Nat.le_of_ble_eq_true rfl) ?_
  intro p e s m below meth c hx hb hr hml hown hts hlocks hin hK A H locs hA hP hD hS ls hl
  have hl : lv_has ls 2 [(0, .ref (a0 0)), (1, .int p1)] := hl
  unfold m_X6_rawOf at hf
  refine lv_aload_n hx hb dX6_rawOf_0 rfl (lv_at hl 0 rfl) ?_
  refine va_get (D := g.1) (ci := 7) (v := .ref (a0 1)) (C := RX6) (T := TX6) (N := 13) hx hb hts layX6 hown hK.1 hP 0 rfl rfl 0 (by decide) (hts _ kw49) (fun _ h9 => h9) rfl dX6_rawOf_1 ?_
  refine lv_iload_n hx hb dX6_rawOf_4 rfl (lv_at hl 1 rfl) ?_
  refine cIp hP hD hS hA (fun hPc hDc => rV (As := [.int p1]) (rest := []) hx hb hml hown hts hK (c_X2_get l g (fun i => a0 (i + 1)) 7 (p6_raws s0) p1 (bnd_ne hf)) svV_X2_get kw417 rfl rfl hPc hDc rfl rfl hl.1 (Nat.le_of_ble_eq_true rfl) dX6_rawOf_5 ⟨Nat.le_of_ble_eq_true rfl, Nat.le_of_ble_eq_true rfl, rfl, rfl, Nat.le_of_ble_eq_true rfl, Nat.le_of_ble_eq_true rfl⟩) [(1, 2)] rfl rfl rfl (fun x1 H locs ex1 nx1 hP hS => ?_)
  have hf := bnd_of hf ex1
  exact retI (u := x1) hx hb hr hlocks hS hP hD (hf0.trans hf.symm) rfl rfl dX6_rawOf_8
set_option maxHeartbeats 4000000 in
set_option maxRecDepth 100000 in
theorem c_X6_kindOf (l : Launch) (g : GG) (a0 : Nat → Nat) (s0 : T6) (p1 : Int32) (hne : (m_X6_kindOf s0 p1) ≠ none) : Ct l g yX6_kindOf cX6_kindOf 2 (some .int) ({ frames := 1, cells := 0, slots := 0, locals := 21 } : Room) [.ref (a0 0), .int p1] (wX6 a0 g s0) (Qi g .int (m_X6_kindOf s0 p1) (fun u => u) (fun u => wX6 a0 g s0)) 0 0 := by
  obtain ⟨out, hf⟩ := ne_ex hne
  have hf0 := hf
  refine Ct.of (own := RX6) (by decide +kernel) rfl (Nat.le_of_ble_eq_true rfl) ?_
  intro p e s m below meth c hx hb hr hml hown hts hlocks hin hK A H locs hA hP hD hS ls hl
  have hl : lv_has ls 2 [(0, .ref (a0 0)), (1, .int p1)] := hl
  unfold m_X6_kindOf at hf
  refine lv_aload_n hx hb dX6_kindOf_0 rfl (lv_at hl 0 rfl) ?_
  refine va_get (D := g.1) (ci := 7) (v := .ref (a0 3)) (C := RX6) (T := TX6) (N := 13) hx hb hts layX6 hown hK.1 hP 0 rfl rfl 1 (by decide) (hts _ kw50) (fun _ h9 => h9) rfl dX6_kindOf_1 ?_
  refine lv_iload_n hx hb dX6_kindOf_4 rfl (lv_at hl 1 rfl) ?_
  refine cIp hP hD hS hA (fun hPc hDc => rV (As := [.int p1]) (rest := []) hx hb hml hown hts hK (c_X2_get l g (fun i => a0 (i + 3)) 7 (p6_kinds s0) p1 (bnd_ne hf)) svV_X2_get kw417 rfl rfl hPc hDc rfl rfl hl.1 (Nat.le_of_ble_eq_true rfl) dX6_kindOf_5 ⟨Nat.le_of_ble_eq_true rfl, Nat.le_of_ble_eq_true rfl, rfl, rfl, Nat.le_of_ble_eq_true rfl, Nat.le_of_ble_eq_true rfl⟩) [(3, 2)] rfl rfl rfl (fun x1 H locs ex1 nx1 hP hS => ?_)
  have hf := bnd_of hf ex1
  exact retI (u := x1) hx hb hr hlocks hS hP hD (hf0.trans hf.symm) rfl rfl dX6_kindOf_8
set_option maxHeartbeats 4000000 in
set_option maxRecDepth 100000 in
theorem c_X6_figureOf (l : Launch) (g : GG) (a0 : Nat → Nat) (s0 : T6) (p1 : Int32) (hne : (m_X6_figureOf s0 p1) ≠ none) : Ct l g yX6_figureOf cX6_figureOf 2 (some .int) ({ frames := 1, cells := 0, slots := 0, locals := 21 } : Room) [.ref (a0 0), .int p1] (wX6 a0 g s0) (Qi g .int (m_X6_figureOf s0 p1) (fun u => u) (fun u => wX6 a0 g s0)) 0 0 := by
  obtain ⟨out, hf⟩ := ne_ex hne
  have hf0 := hf
  refine Ct.of (own := RX6) (by decide +kernel) rfl (Nat.le_of_ble_eq_true rfl) ?_
  intro p e s m below meth c hx hb hr hml hown hts hlocks hin hK A H locs hA hP hD hS ls hl
  have hl : lv_has ls 2 [(0, .ref (a0 0)), (1, .int p1)] := hl
  unfold m_X6_figureOf at hf
  refine lv_aload_n hx hb dX6_figureOf_0 rfl (lv_at hl 0 rfl) ?_
  refine va_get (D := g.1) (ci := 7) (v := .ref (a0 5)) (C := RX6) (T := TX6) (N := 13) hx hb hts layX6 hown hK.1 hP 0 rfl rfl 2 (by decide) (hts _ kw51) (fun _ h9 => h9) rfl dX6_figureOf_1 ?_
  refine lv_iload_n hx hb dX6_figureOf_4 rfl (lv_at hl 1 rfl) ?_
  refine cIp hP hD hS hA (fun hPc hDc => rV (As := [.int p1]) (rest := []) hx hb hml hown hts hK (c_X2_get l g (fun i => a0 (i + 5)) 7 (p6_figures s0) p1 (bnd_ne hf)) svV_X2_get kw417 rfl rfl hPc hDc rfl rfl hl.1 (Nat.le_of_ble_eq_true rfl) dX6_figureOf_5 ⟨Nat.le_of_ble_eq_true rfl, Nat.le_of_ble_eq_true rfl, rfl, rfl, Nat.le_of_ble_eq_true rfl, Nat.le_of_ble_eq_true rfl⟩) [(5, 2)] rfl rfl rfl (fun x1 H locs ex1 nx1 hP hS => ?_)
  have hf := bnd_of hf ex1
  exact retI (u := x1) hx hb hr hlocks hS hP hD (hf0.trans hf.symm) rfl rfl dX6_figureOf_8
set_option maxHeartbeats 4000000 in
set_option maxRecDepth 100000 in
theorem c_X6_heavyOf (l : Launch) (g : GG) (a0 : Nat → Nat) (s0 : T6) (p1 : Int32) (hne : (m_X6_heavyOf s0 p1) ≠ none) : Ct l g yX6_heavyOf cX6_heavyOf 2 (some .int) ({ frames := 1, cells := 0, slots := 0, locals := 21 } : Room) [.ref (a0 0), .int p1] (wX6 a0 g s0) (Qi g .int (m_X6_heavyOf s0 p1) (fun u => u) (fun u => wX6 a0 g s0)) 0 0 := by
  obtain ⟨out, hf⟩ := ne_ex hne
  have hf0 := hf
  refine Ct.of (own := RX6) (by decide +kernel) rfl (Nat.le_of_ble_eq_true rfl) ?_
  intro p e s m below meth c hx hb hr hml hown hts hlocks hin hK A H locs hA hP hD hS ls hl
  have hl : lv_has ls 2 [(0, .ref (a0 0)), (1, .int p1)] := hl
  unfold m_X6_heavyOf at hf
  refine lv_aload_n hx hb dX6_heavyOf_0 rfl (lv_at hl 0 rfl) ?_
  refine va_get (D := g.1) (ci := 7) (v := .ref (a0 7)) (C := RX6) (T := TX6) (N := 13) hx hb hts layX6 hown hK.1 hP 0 rfl rfl 3 (by decide) (hts _ kw52) (fun _ h9 => h9) rfl dX6_heavyOf_1 ?_
  refine lv_iload_n hx hb dX6_heavyOf_4 rfl (lv_at hl 1 rfl) ?_
  refine cIp hP hD hS hA (fun hPc hDc => rV (As := [.int p1]) (rest := []) hx hb hml hown hts hK (c_X2_get l g (fun i => a0 (i + 7)) 7 (p6_heavies s0) p1 (bnd_ne hf)) svV_X2_get kw417 rfl rfl hPc hDc rfl rfl hl.1 (Nat.le_of_ble_eq_true rfl) dX6_heavyOf_5 ⟨Nat.le_of_ble_eq_true rfl, Nat.le_of_ble_eq_true rfl, rfl, rfl, Nat.le_of_ble_eq_true rfl, Nat.le_of_ble_eq_true rfl⟩) [(7, 2)] rfl rfl rfl (fun x1 H locs ex1 nx1 hP hS => ?_)
  have hf := bnd_of hf ex1
  exact retI (u := x1) hx hb hr hlocks hS hP hD (hf0.trans hf.symm) rfl rfl dX6_heavyOf_8
set_option maxHeartbeats 4000000 in
set_option maxRecDepth 100000 in
theorem c_X6_placeOf (l : Launch) (g : GG) (a0 : Nat → Nat) (s0 : T6) (p1 : Int32) (hne : (m_X6_placeOf s0 p1) ≠ none) : Ct l g yX6_placeOf cX6_placeOf 2 (some .int) ({ frames := 1, cells := 0, slots := 0, locals := 21 } : Room) [.ref (a0 0), .int p1] (wX6 a0 g s0) (Qi g .int (m_X6_placeOf s0 p1) (fun u => u) (fun u => wX6 a0 g s0)) 0 0 := by
  obtain ⟨out, hf⟩ := ne_ex hne
  have hf0 := hf
  refine Ct.of (own := RX6) (by decide +kernel) rfl (Nat.le_of_ble_eq_true rfl) ?_
  intro p e s m below meth c hx hb hr hml hown hts hlocks hin hK A H locs hA hP hD hS ls hl
  have hl : lv_has ls 2 [(0, .ref (a0 0)), (1, .int p1)] := hl
  unfold m_X6_placeOf at hf
  refine lv_aload_n hx hb dX6_placeOf_0 rfl (lv_at hl 0 rfl) ?_
  refine va_get (D := g.1) (ci := 7) (v := .ref (a0 9)) (C := RX6) (T := TX6) (N := 13) hx hb hts layX6 hown hK.1 hP 0 rfl rfl 4 (by decide) (hts _ kw53) (fun _ h9 => h9) rfl dX6_placeOf_1 ?_
  refine lv_iload_n hx hb dX6_placeOf_4 rfl (lv_at hl 1 rfl) ?_
  refine cIp hP hD hS hA (fun hPc hDc => rV (As := [.int p1]) (rest := []) hx hb hml hown hts hK (c_X2_get l g (fun i => a0 (i + 9)) 7 (p6_places s0) p1 (bnd_ne hf)) svV_X2_get kw417 rfl rfl hPc hDc rfl rfl hl.1 (Nat.le_of_ble_eq_true rfl) dX6_placeOf_5 ⟨Nat.le_of_ble_eq_true rfl, Nat.le_of_ble_eq_true rfl, rfl, rfl, Nat.le_of_ble_eq_true rfl, Nat.le_of_ble_eq_true rfl⟩) [(9, 2)] rfl rfl rfl (fun x1 H locs ex1 nx1 hP hS => ?_)
  have hf := bnd_of hf ex1
  exact retI (u := x1) hx hb hr hlocks hS hP hD (hf0.trans hf.symm) rfl rfl dX6_placeOf_8
set_option maxHeartbeats 4000000 in
set_option maxRecDepth 100000 in
theorem c_X9_markBy (l : Launch) (g : GG) (p0 : Int32) (p1 : Int32) (p2 : Int32) (hne : (m_X9_markBy p0 p1 p2) ≠ none) : Ct l g yX9_markBy cX9_markBy 3 (some .int) ({ frames := 1, cells := 0, slots := 0, locals := 23 } : Room) [.int p0, .int p1, .int p2] (([] : va_W)) (Qi g .int (m_X9_markBy p0 p1 p2) (fun u => u) (fun u => ([] : va_W))) 0 0 := by
  obtain ⟨out, hf⟩ := ne_ex hne
  have hf0 := hf
  refine Ct.of (own := RX9) (by decide +kernel) rfl (Nat.le_of_ble_eq_true rfl) ?_
  intro p e s m below meth c hx hb hr hml hown hts hlocks hin hK A H locs hA hP hD hS ls hl
  have hl : lv_has ls 3 [(0, .int p0), (1, .int p1), (2, .int p2)] := hl
  unfold m_X9_markBy at hf
  refine lv_iload_n hx hb dX9_markBy_0 rfl (lv_at hl 0 rfl) ?_
  by_cases c1 : p0 = (1 : Int32)
  · have hf := it_t c1 hf
    refine lv_tableIn (off := 31) (tgt := 32) hx hb dX9_markBy_1 (by rw [c1]; decide) (by rw [c1]; decide) (by rw [c1]; rfl) (by decide) ?_
    refine lv_iload_n hx hb dX9_markBy_32 rfl (lv_at hl 1 rfl) ?_
    refine lv_iload_n hx hb dX9_markBy_33 rfl (lv_at hl 2 rfl) ?_
    refine lv_iadd hx hb dX9_markBy_34 ?_
    exact retI (u := (p1 + p2)) hx hb hr hlocks hS hP hD (hf0.trans hf.symm) rfl rfl dX9_markBy_35
  have hf := it_f c1 hf
  by_cases c2 : p0 = (2 : Int32)
  · have hf := it_t c2 hf
    refine lv_tableIn (off := 52) (tgt := 53) hx hb dX9_markBy_1 (by rw [c2]; decide) (by rw [c2]; decide) (by rw [c2]; rfl) (by decide) ?_
    refine lv_iconst (v := 0) hx hb dX9_markBy_53 (by decide) ?_
    refine lv_iload_n hx hb dX9_markBy_54 rfl (lv_at hl 1 rfl) ?_
    refine lv_iconst (v := 3) hx hb dX9_markBy_55 (by decide) ?_
    refine lv_iload_n hx hb dX9_markBy_56 rfl (lv_at hl 2 rfl) ?_
    refine lv_imul hx hb dX9_markBy_57 ?_
    refine lv_isub hx hb dX9_markBy_58 ?_
    refine va_mmax hx hb (hml.trans hl.1.symm) hown (hts _ kw565) (hts _ kw43) (hts _ kw4) (hts _ kw44) (Nat.le_of_ble_eq_true rfl) (Nat.le_of_ble_eq_true rfl) (Nat.zero_le _) (Nat.zero_le _) dX9_markBy_59 ?_
    obtain ⟨x1, ex1, hf⟩ := bnd hf
    refine nmI (Option.some.inj ex1) ?_
    exact retI (u := x1) hx hb hr hlocks hS hP hD (hf0.trans hf.symm) rfl rfl dX9_markBy_62
  have hf := it_f c2 hf
  by_cases c3 : p0 = (3 : Int32)
  · have hf := it_t c3 hf
    refine lv_tableIn (off := 62) (tgt := 63) hx hb dX9_markBy_1 (by rw [c3]; decide) (by rw [c3]; decide) (by rw [c3]; rfl) (by decide) ?_
    refine lv_bipush (v := 50) hx hb dX9_markBy_63 (by decide) ?_
    refine lv_iconst (v := 0) hx hb dX9_markBy_65 (by decide) ?_
    refine lv_iload_n hx hb dX9_markBy_66 rfl (lv_at hl 1 rfl) ?_
    refine lv_iconst (v := 3) hx hb dX9_markBy_67 (by decide) ?_
    refine lv_iload_n hx hb dX9_markBy_68 rfl (lv_at hl 2 rfl) ?_
    refine lv_imul hx hb dX9_markBy_69 ?_
    refine lv_isub hx hb dX9_markBy_70 ?_
    refine va_mmax hx hb (hml.trans hl.1.symm) hown (hts _ kw565) (hts _ kw43) (hts _ kw4) (hts _ kw44) (Nat.le_of_ble_eq_true rfl) (Nat.le_of_ble_eq_true rfl) (Nat.zero_le _) (Nat.zero_le _) dX9_markBy_71 ?_
    obtain ⟨x2, ex2, hf⟩ := bnd hf
    refine nmI (Option.some.inj ex2) ?_
    refine va_mmin hx hb (hml.trans hl.1.symm) hown (hts _ kw566) (hts _ kw567) (hts _ kw4) (hts _ kw568) (Nat.le_of_ble_eq_true rfl) (Nat.le_of_ble_eq_true rfl) (Nat.zero_le _) (Nat.zero_le _) dX9_markBy_74 ?_
    obtain ⟨x3, ex3, hf⟩ := bnd hf
    refine nmI (Option.some.inj ex3) ?_
    exact retI (u := x3) hx hb hr hlocks hS hP hD (hf0.trans hf.symm) rfl rfl dX9_markBy_77
  have hf := it_f c3 hf
  by_cases c4 : p0 = (4 : Int32)
  · have hf := it_t c4 hf
    refine lv_tableIn (off := 35) (tgt := 36) hx hb dX9_markBy_1 (by rw [c4]; decide) (by rw [c4]; decide) (by rw [c4]; rfl) (by decide) ?_
    refine lv_iload_n hx hb dX9_markBy_36 rfl (lv_at hl 1 rfl) ?_
    refine lv_iload_n hx hb dX9_markBy_37 rfl (lv_at hl 2 rfl) ?_
    refine lv_iadd hx hb dX9_markBy_38 ?_
    refine lv_iload_n hx hb dX9_markBy_39 rfl (lv_at hl 1 rfl) ?_
    refine lv_bipush (v := 70) hx hb dX9_markBy_40 (by decide) ?_
    refine lv_icmp_lt (tgt := 50) hx hb dX9_markBy_42 (by decide) (fun cb => ?_) (fun cb => ?_)
    · have hf := it_t cb hf
      refine lv_iconst (v := 0) hx hb dX9_markBy_50 (by decide) ?_
      refine lv_iadd hx hb dX9_markBy_51 ?_
      exact retI (u := ((p1 + p2) + (0 : Int32))) hx hb hr hlocks hS hP hD (hf0.trans hf.symm) rfl rfl dX9_markBy_52
    have hf := it_f cb hf
    refine lv_bipush (v := 10) hx hb dX9_markBy_45 (by decide) ?_
    refine lv_goto (tgt := 51) hx hb dX9_markBy_47 (by decide) ?_
    refine lv_iadd hx hb dX9_markBy_51 ?_
    exact retI (u := ((p1 + p2) + (10 : Int32))) hx hb hr hlocks hS hP hD (hf0.trans hf.symm) rfl rfl dX9_markBy_52
  have hf := it_f c4 hf
  refine lv_tableOut (tgt := 78) hx hb dX9_markBy_1 (by have q1 := lv_neT c1 (a := 1) rfl; have q2 := lv_neT c2 (a := 2) rfl; have q3 := lv_neT c3 (a := 3) rfl; have q4 := lv_neT c4 (a := 4) rfl; omega) (by decide) ?_
  refine lv_iload_n hx hb dX9_markBy_78 rfl (lv_at hl 1 rfl) ?_
  exact retI (u := p1) hx hb hr hlocks hS hP hD (hf0.trans hf.symm) rfl rfl dX9_markBy_79
set_option maxHeartbeats 4000000 in
set_option maxRecDepth 100000 in
theorem c_X6_markOf (l : Launch) (g : GG) (a0 : Nat → Nat) (s0 : T6) (p1 : Int32) (hne : (m_X6_markOf s0 p1) ≠ none) : Ct l g yX6_markOf cX6_markOf 2 (some .int) ({ frames := 2, cells := 0, slots := 0, locals := 45 } : Room) [.ref (a0 0), .int p1] (wX6 a0 g s0) (Qi g .int (m_X6_markOf s0 p1) (fun u => u) (fun u => wX6 a0 g s0)) 0 0 := by
  obtain ⟨out, hf⟩ := ne_ex hne
  have hf0 := hf
  refine Ct.of (own := RX6) (by decide +kernel) rfl (Nat.le_of_ble_eq_true rfl) ?_
  intro p e s m below meth c hx hb hr hml hown hts hlocks hin hK A H locs hA hP hD hS ls hl
  have hl : lv_has ls 2 [(0, .ref (a0 0)), (1, .int p1)] := hl
  unfold m_X6_markOf at hf
  refine lv_aload_n hx hb dX6_markOf_0 rfl (lv_at hl 0 rfl) ?_
  refine va_get (D := g.1) (ci := 7) (v := .ref (a0 3)) (C := RX6) (T := TX6) (N := 13) hx hb hts layX6 hown hK.1 hP 0 rfl rfl 1 (by decide) (hts _ kw50) (fun _ h9 => h9) rfl dX6_markOf_1 ?_
  refine lv_iload_n hx hb dX6_markOf_4 rfl (lv_at hl 1 rfl) ?_
  refine cIp hP hD hS hA (fun hPc hDc => rV (As := [.int p1]) (rest := []) hx hb hml hown hts hK (c_X2_get l g (fun i => a0 (i + 3)) 7 (p6_kinds s0) p1 (bnd_ne hf)) svV_X2_get kw417 rfl rfl hPc hDc rfl rfl hl.1 (Nat.le_of_ble_eq_true rfl) dX6_markOf_5 ⟨Nat.le_of_ble_eq_true rfl, Nat.le_of_ble_eq_true rfl, rfl, rfl, Nat.le_of_ble_eq_true rfl, Nat.le_of_ble_eq_true rfl⟩) [(3, 2)] rfl rfl rfl (fun x1 H locs ex1 nx1 hP hS => ?_)
  have hf := bnd_of hf ex1
  refine lv_aload_n hx hb dX6_markOf_8 rfl (lv_at hl 0 rfl) ?_
  refine va_get (D := g.1) (ci := 7) (v := .ref (a0 1)) (C := RX6) (T := TX6) (N := 13) hx hb hts layX6 hown hK.1 hP 0 rfl rfl 0 (by decide) (hts _ kw49) (fun _ h9 => h9) rfl dX6_markOf_9 ?_
  refine lv_iload_n hx hb dX6_markOf_12 rfl (lv_at hl 1 rfl) ?_
  refine cIp hP hD hS hA (fun hPc hDc => rV (As := [.int p1]) (rest := [.int x1]) hx hb hml hown hts hK (c_X2_get l g (fun i => a0 (i + 1)) 7 (p6_raws s0) p1 (bnd_ne hf)) svV_X2_get kw417 rfl rfl hPc hDc rfl rfl hl.1 (Nat.le_of_ble_eq_true rfl) dX6_markOf_13 ⟨Nat.le_of_ble_eq_true rfl, Nat.le_of_ble_eq_true rfl, rfl, rfl, Nat.le_of_ble_eq_true rfl, Nat.le_of_ble_eq_true rfl⟩) [(1, 2)] rfl rfl rfl (fun x2 H locs ex2 nx2 hP hS => ?_)
  have hf := bnd_of hf ex2
  refine lv_aload_n hx hb dX6_markOf_16 rfl (lv_at hl 0 rfl) ?_
  refine va_get (D := g.1) (ci := 7) (v := .ref (a0 5)) (C := RX6) (T := TX6) (N := 13) hx hb hts layX6 hown hK.1 hP 0 rfl rfl 2 (by decide) (hts _ kw51) (fun _ h9 => h9) rfl dX6_markOf_17 ?_
  refine lv_iload_n hx hb dX6_markOf_20 rfl (lv_at hl 1 rfl) ?_
  refine cIp hP hD hS hA (fun hPc hDc => rV (As := [.int p1]) (rest := [.int x2, .int x1]) hx hb hml hown hts hK (c_X2_get l g (fun i => a0 (i + 5)) 7 (p6_figures s0) p1 (bnd_ne hf)) svV_X2_get kw417 rfl rfl hPc hDc rfl rfl hl.1 (Nat.le_of_ble_eq_true rfl) dX6_markOf_21 ⟨Nat.le_of_ble_eq_true rfl, Nat.le_of_ble_eq_true rfl, rfl, rfl, Nat.le_of_ble_eq_true rfl, Nat.le_of_ble_eq_true rfl⟩) [(5, 2)] rfl rfl rfl (fun x3 H locs ex3 nx3 hP hS => ?_)
  have hf := bnd_of hf ex3
  refine cIp hP hD hS hA (fun hPc hDc => rSN (As := [.int x1, .int x2, .int x3]) (rest := []) hx hb hml hown hts hK (c_X9_markBy l g x1 x2 x3 (bnd_ne hf)) svS_X9_markBy nw12 hPc hDc rfl rfl hl.1 (Nat.le_of_ble_eq_true rfl) dX6_markOf_24 ⟨Nat.le_of_ble_eq_true rfl, Nat.le_of_ble_eq_true rfl, rfl, rfl, Nat.le_of_ble_eq_true rfl, Nat.le_of_ble_eq_true rfl⟩) [] rfl rfl rfl (fun x4 H locs ex4 nx4 hP hS => ?_)
  have hf := bnd_of hf ex4
  exact retI (u := x4) hx hb hr hlocks hS hP hD (hf0.trans hf.symm) rfl rfl dX6_markOf_27
set_option maxHeartbeats 4000000 in
set_option maxRecDepth 100000 in
theorem c_X9_weightBy (l : Launch) (g : GG) (p0 : Int32) (p1 : Int32) (hne : (m_X9_weightBy p0 p1) ≠ none) : Ct l g yX9_weightBy cX9_weightBy 2 (some .int) ({ frames := 0, cells := 0, slots := 0, locals := 0 } : Room) [.int p0, .int p1] (([] : va_W)) (Qi g .int (m_X9_weightBy p0 p1) (fun u => u) (fun u => ([] : va_W))) 0 0 := by
  obtain ⟨out, hf⟩ := ne_ex hne
  have hf0 := hf
  refine Ct.of (own := RX9) (by decide +kernel) rfl (Nat.le_of_ble_eq_true rfl) ?_
  intro p e s m below meth c hx hb hr hml hown hts hlocks hin hK A H locs hA hP hD hS ls hl
  have hl : lv_has ls 2 [(0, .int p0), (1, .int p1)] := hl
  unfold m_X9_weightBy at hf
  refine lv_iload_n hx hb dX9_weightBy_0 rfl (lv_at hl 0 rfl) ?_
  by_cases c2 : p0 = (2 : Int32)
  · have hf := it_t c2 hf
    refine lv_tableIn (off := 31) (tgt := 32) hx hb dX9_weightBy_1 (by rw [c2]; decide) (by rw [c2]; decide) (by rw [c2]; rfl) (by decide) ?_
    refine lv_iload_n hx hb dX9_weightBy_32 rfl (lv_at hl 1 rfl) ?_
    refine lv_iconst (v := 1) hx hb dX9_weightBy_33 (by decide) ?_
    refine lv_iadd hx hb dX9_weightBy_34 ?_
    refine lv_iconst (v := 2) hx hb dX9_weightBy_35 (by decide) ?_
    refine lv_idiv hx hb dX9_weightBy_36 (by decide) ?_
    exact retI (u := ((p1 + (1 : Int32)) / (2 : Int32))) hx hb hr hlocks hS hP hD (hf0.trans hf.symm) rfl rfl dX9_weightBy_37
  have hf := it_f c2 hf
  by_cases c3 : p0 = (3 : Int32)
  · have hf := it_t c3 hf
    refine lv_tableIn (off := 37) (tgt := 38) hx hb dX9_weightBy_1 (by rw [c3]; decide) (by rw [c3]; decide) (by rw [c3]; rfl) (by decide) ?_
    refine lv_iload_n hx hb dX9_weightBy_38 rfl (lv_at hl 1 rfl) ?_
    refine lv_iconst (v := 1) hx hb dX9_weightBy_39 (by decide) ?_
    refine lv_iadd hx hb dX9_weightBy_40 ?_
    refine lv_iconst (v := 2) hx hb dX9_weightBy_41 (by decide) ?_
    refine lv_idiv hx hb dX9_weightBy_42 (by decide) ?_
    refine lv_iconst (v := 1) hx hb dX9_weightBy_43 (by decide) ?_
    refine lv_iadd hx hb dX9_weightBy_44 ?_
    exact retI (u := (((p1 + (1 : Int32)) / (2 : Int32)) + (1 : Int32))) hx hb hr hlocks hS hP hD (hf0.trans hf.symm) rfl rfl dX9_weightBy_45
  have hf := it_f c3 hf
  by_cases c5 : p0 = (5 : Int32)
  · have hf := it_t c5 hf
    refine lv_tableIn (off := 45) (tgt := 46) hx hb dX9_weightBy_1 (by rw [c5]; decide) (by rw [c5]; decide) (by rw [c5]; rfl) (by decide) ?_
    refine lv_iconst (v := 2) hx hb dX9_weightBy_46 (by decide) ?_
    refine lv_iload_n hx hb dX9_weightBy_47 rfl (lv_at hl 1 rfl) ?_
    refine lv_imul hx hb dX9_weightBy_48 ?_
    exact retI (u := ((2 : Int32) * p1)) hx hb hr hlocks hS hP hD (hf0.trans hf.symm) rfl rfl dX9_weightBy_49
  have hf := it_f c5 hf
  have KD : W p l e { frames := 0, cells := 0, slots := 0, locals := 0 } s m [.int p0, .int p1].toArray below meth c H locs 0 0 (MQ below (Qi g .int (m_X9_weightBy p0 p1) (fun u => u) (fun u => ([] : va_W)) A) [.int p0, .int p1].toArray s 0 0 A) (F0 m 50 ls []) := by
    refine lv_iload_n hx hb dX9_weightBy_50 rfl (lv_at hl 1 rfl) ?_
    exact retI (u := p1) hx hb hr hlocks hS hP hD (hf0.trans hf.symm) rfl rfl dX9_weightBy_51
  by_cases c4 : p0 = (4 : Int32)
  · exact lv_tableIn (off := 49) (tgt := 50) hx hb dX9_weightBy_1 (by rw [c4]; decide) (by rw [c4]; decide) (by rw [c4]; rfl) (by decide) KD
  exact lv_tableOut (tgt := 50) hx hb dX9_weightBy_1 (by have q2 := lv_neT c2 (a := 2) rfl; have q3 := lv_neT c3 (a := 3) rfl; have q4 := lv_neT c4 (a := 4) rfl; have q5 := lv_neT c5 (a := 5) rfl; omega) (by decide) KD
