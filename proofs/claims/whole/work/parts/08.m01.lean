theorem svV_X2_copyFrom : SV RX2 yX2_copyFrom cX2_copyFrom 3 none 1 := ⟨kw381, kw382, kw3, kw383, rfl, by decide, by decide, by decide +kernel⟩
theorem svV_X6_hasPaper : SV RX6 yX6_hasPaper cX6_hasPaper 2 (some .boolean) 1 := ⟨kw414, kw415, kw2, kw416, rfl, by decide, by decide, by decide +kernel⟩
theorem dX6_copyFrom_0 : decode cX6_copyFrom 0 = .ok (.aload_n 0, 1) := by decide +kernel
theorem dX6_copyFrom_1 : decode cX6_copyFrom 1 = .ok (.getfield 14, 3) := by decide +kernel
theorem dX6_copyFrom_4 : decode cX6_copyFrom 4 = .ok (.aload_n 1, 1) := by decide +kernel
theorem dX6_copyFrom_5 : decode cX6_copyFrom 5 = .ok (.getfield 14, 3) := by decide +kernel
theorem dX6_copyFrom_8 : decode cX6_copyFrom 8 = .ok (.invokevirtual 44, 3) := by decide +kernel
theorem dX6_copyFrom_11 : decode cX6_copyFrom 11 = .ok (.aload_n 0, 1) := by decide +kernel
theorem dX6_copyFrom_12 : decode cX6_copyFrom 12 = .ok (.getfield 20, 3) := by decide +kernel
theorem dX6_copyFrom_15 : decode cX6_copyFrom 15 = .ok (.aload_n 1, 1) := by decide +kernel
theorem dX6_copyFrom_16 : decode cX6_copyFrom 16 = .ok (.getfield 20, 3) := by decide +kernel
theorem dX6_copyFrom_19 : decode cX6_copyFrom 19 = .ok (.invokevirtual 44, 3) := by decide +kernel
theorem dX6_copyFrom_22 : decode cX6_copyFrom 22 = .ok (.aload_n 0, 1) := by decide +kernel
theorem dX6_copyFrom_23 : decode cX6_copyFrom 23 = .ok (.getfield 23, 3) := by decide +kernel
theorem dX6_copyFrom_26 : decode cX6_copyFrom 26 = .ok (.aload_n 1, 1) := by decide +kernel
theorem dX6_copyFrom_27 : decode cX6_copyFrom 27 = .ok (.getfield 23, 3) := by decide +kernel
theorem dX6_copyFrom_30 : decode cX6_copyFrom 30 = .ok (.invokevirtual 44, 3) := by decide +kernel
theorem dX6_copyFrom_33 : decode cX6_copyFrom 33 = .ok (.aload_n 0, 1) := by decide +kernel
theorem dX6_copyFrom_34 : decode cX6_copyFrom 34 = .ok (.getfield 26, 3) := by decide +kernel
theorem dX6_copyFrom_37 : decode cX6_copyFrom 37 = .ok (.aload_n 1, 1) := by decide +kernel
theorem dX6_copyFrom_38 : decode cX6_copyFrom 38 = .ok (.getfield 26, 3) := by decide +kernel
theorem dX6_copyFrom_41 : decode cX6_copyFrom 41 = .ok (.invokevirtual 44, 3) := by decide +kernel
theorem dX6_copyFrom_44 : decode cX6_copyFrom 44 = .ok (.aload_n 0, 1) := by decide +kernel
theorem dX6_copyFrom_45 : decode cX6_copyFrom 45 = .ok (.getfield 29, 3) := by decide +kernel
theorem dX6_copyFrom_48 : decode cX6_copyFrom 48 = .ok (.aload_n 1, 1) := by decide +kernel
theorem dX6_copyFrom_49 : decode cX6_copyFrom 49 = .ok (.getfield 29, 3) := by decide +kernel
theorem dX6_copyFrom_52 : decode cX6_copyFrom 52 = .ok (.invokevirtual 44, 3) := by decide +kernel
theorem dX6_copyFrom_55 : decode cX6_copyFrom 55 = .ok (.aload_n 0, 1) := by decide +kernel
theorem dX6_copyFrom_56 : decode cX6_copyFrom 56 = .ok (.aload_n 1, 1) := by decide +kernel
theorem dX6_copyFrom_57 : decode cX6_copyFrom 57 = .ok (.getfield 48, 3) := by decide +kernel
theorem dX6_copyFrom_60 : decode cX6_copyFrom 60 = .ok (.putfield 48, 3) := by decide +kernel
theorem dX6_copyFrom_63 : decode cX6_copyFrom 63 = .ok (.aload_n 0, 1) := by decide +kernel
theorem dX6_copyFrom_64 : decode cX6_copyFrom 64 = .ok (.getfield 32, 3) := by decide +kernel
theorem dX6_copyFrom_67 : decode cX6_copyFrom 67 = .ok (.aload_n 1, 1) := by decide +kernel
theorem dX6_copyFrom_68 : decode cX6_copyFrom 68 = .ok (.getfield 32, 3) := by decide +kernel
theorem dX6_copyFrom_71 : decode cX6_copyFrom 71 = .ok (.invokevirtual 44, 3) := by decide +kernel
theorem dX6_copyFrom_74 : decode cX6_copyFrom 74 = .ok (.aload_n 0, 1) := by decide +kernel
theorem dX6_copyFrom_75 : decode cX6_copyFrom 75 = .ok (.getfield 35, 3) := by decide +kernel
theorem dX6_copyFrom_78 : decode cX6_copyFrom 78 = .ok (.aload_n 1, 1) := by decide +kernel
theorem dX6_copyFrom_79 : decode cX6_copyFrom 79 = .ok (.getfield 35, 3) := by decide +kernel
theorem dX6_copyFrom_82 : decode cX6_copyFrom 82 = .ok (.invokevirtual 44, 3) := by decide +kernel
theorem dX6_copyFrom_85 : decode cX6_copyFrom 85 = .ok (.aload_n 0, 1) := by decide +kernel
theorem dX6_copyFrom_86 : decode cX6_copyFrom 86 = .ok (.aload_n 1, 1) := by decide +kernel
theorem dX6_copyFrom_87 : decode cX6_copyFrom 87 = .ok (.getfield 52, 3) := by decide +kernel
theorem dX6_copyFrom_90 : decode cX6_copyFrom 90 = .ok (.putfield 52, 3) := by decide +kernel
theorem dX6_copyFrom_93 : decode cX6_copyFrom 93 = .ok (.aload_n 0, 1) := by decide +kernel
theorem dX6_copyFrom_94 : decode cX6_copyFrom 94 = .ok (.getfield 38, 3) := by decide +kernel
theorem dX6_copyFrom_97 : decode cX6_copyFrom 97 = .ok (.aload_n 1, 1) := by decide +kernel
theorem dX6_copyFrom_98 : decode cX6_copyFrom 98 = .ok (.getfield 38, 3) := by decide +kernel
theorem dX6_copyFrom_101 : decode cX6_copyFrom 101 = .ok (.invokevirtual 44, 3) := by decide +kernel
theorem dX6_copyFrom_104 : decode cX6_copyFrom 104 = .ok (.aload_n 0, 1) := by decide +kernel
theorem dX6_copyFrom_105 : decode cX6_copyFrom 105 = .ok (.aload_n 1, 1) := by decide +kernel
theorem dX6_copyFrom_106 : decode cX6_copyFrom 106 = .ok (.getfield 55, 3) := by decide +kernel
theorem dX6_copyFrom_109 : decode cX6_copyFrom 109 = .ok (.putfield 55, 3) := by decide +kernel
theorem dX6_copyFrom_112 : decode cX6_copyFrom 112 = .ok (.aload_n 0, 1) := by decide +kernel
theorem dX6_copyFrom_113 : decode cX6_copyFrom 113 = .ok (.aload_n 1, 1) := by decide +kernel
theorem dX6_copyFrom_114 : decode cX6_copyFrom 114 = .ok (.getfield 58, 3) := by decide +kernel
theorem dX6_copyFrom_117 : decode cX6_copyFrom 117 = .ok (.putfield 58, 3) := by decide +kernel
theorem dX6_copyFrom_120 : decode cX6_copyFrom 120 = .ok (.return_, 1) := by decide +kernel
theorem dX6_paperCount_0 : decode cX6_paperCount 0 = .ok (.aload_n 0, 1) := by decide +kernel
theorem dX6_paperCount_1 : decode cX6_paperCount 1 = .ok (.getfield 48, 3) := by decide +kernel
theorem dX6_paperCount_4 : decode cX6_paperCount 4 = .ok (.ireturn, 1) := by decide +kernel
theorem dX6_ruleCount_0 : decode cX6_ruleCount 0 = .ok (.aload_n 0, 1) := by decide +kernel
theorem dX6_ruleCount_1 : decode cX6_ruleCount 1 = .ok (.getfield 52, 3) := by decide +kernel
theorem dX6_ruleCount_4 : decode cX6_ruleCount 4 = .ok (.ireturn, 1) := by decide +kernel
theorem dX6_limitCount_0 : decode cX6_limitCount 0 = .ok (.aload_n 0, 1) := by decide +kernel
theorem dX6_limitCount_1 : decode cX6_limitCount 1 = .ok (.getfield 55, 3) := by decide +kernel
theorem dX6_limitCount_4 : decode cX6_limitCount 4 = .ok (.ireturn, 1) := by decide +kernel
theorem dX6_tiesNow_0 : decode cX6_tiesNow 0 = .ok (.aload_n 0, 1) := by decide +kernel
theorem dX6_tiesNow_1 : decode cX6_tiesNow 1 = .ok (.getfield 58, 3) := by decide +kernel
theorem dX6_tiesNow_4 : decode cX6_tiesNow 4 = .ok (.ireturn, 1) := by decide +kernel
theorem dX6_hasPaper_0 : decode cX6_hasPaper 0 = .ok (.iload_n 1, 1) := by decide +kernel
theorem dX6_hasPaper_1 : decode cX6_hasPaper 1 = .ok (.ifCond .lt 15, 3) := by decide +kernel
theorem dX6_hasPaper_16 : decode cX6_hasPaper 16 = .ok (.iconst 0, 1) := by decide +kernel
theorem dX6_hasPaper_17 : decode cX6_hasPaper 17 = .ok (.ireturn, 1) := by decide +kernel
theorem dX6_hasPaper_4 : decode cX6_hasPaper 4 = .ok (.iload_n 1, 1) := by decide +kernel
theorem dX6_hasPaper_5 : decode cX6_hasPaper 5 = .ok (.aload_n 0, 1) := by decide +kernel
theorem dX6_hasPaper_6 : decode cX6_hasPaper 6 = .ok (.getfield 48, 3) := by decide +kernel
theorem dX6_hasPaper_9 : decode cX6_hasPaper 9 = .ok (.if_icmp .ge 7, 3) := by decide +kernel
theorem dX6_hasPaper_12 : decode cX6_hasPaper 12 = .ok (.iconst 1, 1) := by decide +kernel
theorem dX6_hasPaper_13 : decode cX6_hasPaper 13 = .ok (.goto 4, 3) := by decide +kernel
theorem dX6_areTwo_0 : decode cX6_areTwo 0 = .ok (.aload_n 0, 1) := by decide +kernel
theorem dX6_areTwo_1 : decode cX6_areTwo 1 = .ok (.iload_n 1, 1) := by decide +kernel
theorem dX6_areTwo_2 : decode cX6_areTwo 2 = .ok (.invokevirtual 61, 3) := by decide +kernel
theorem dX6_areTwo_5 : decode cX6_areTwo 5 = .ok (.ifCond .eq 20, 3) := by decide +kernel
theorem dX6_areTwo_25 : decode cX6_areTwo 25 = .ok (.iconst 0, 1) := by decide +kernel
theorem dX6_areTwo_26 : decode cX6_areTwo 26 = .ok (.ireturn, 1) := by decide +kernel
theorem dX6_areTwo_8 : decode cX6_areTwo 8 = .ok (.aload_n 0, 1) := by decide +kernel
theorem dX6_areTwo_9 : decode cX6_areTwo 9 = .ok (.iload_n 2, 1) := by decide +kernel
theorem dX6_areTwo_10 : decode cX6_areTwo 10 = .ok (.invokevirtual 61, 3) := by decide +kernel
theorem dX6_areTwo_13 : decode cX6_areTwo 13 = .ok (.ifCond .eq 12, 3) := by decide +kernel
theorem dX6_areTwo_16 : decode cX6_areTwo 16 = .ok (.iload_n 1, 1) := by decide +kernel
theorem dX6_areTwo_17 : decode cX6_areTwo 17 = .ok (.iload_n 2, 1) := by decide +kernel
theorem dX6_areTwo_18 : decode cX6_areTwo 18 = .ok (.if_icmp .eq 7, 3) := by decide +kernel
theorem dX6_areTwo_21 : decode cX6_areTwo 21 = .ok (.iconst 1, 1) := by decide +kernel
theorem dX6_areTwo_22 : decode cX6_areTwo 22 = .ok (.goto 4, 3) := by decide +kernel
theorem dX6_hasRule_0 : decode cX6_hasRule 0 = .ok (.iload_n 1, 1) := by decide +kernel
theorem dX6_hasRule_1 : decode cX6_hasRule 1 = .ok (.ifCond .lt 15, 3) := by decide +kernel
theorem dX6_hasRule_16 : decode cX6_hasRule 16 = .ok (.iconst 0, 1) := by decide +kernel
theorem dX6_hasRule_17 : decode cX6_hasRule 17 = .ok (.ireturn, 1) := by decide +kernel
theorem dX6_hasRule_4 : decode cX6_hasRule 4 = .ok (.iload_n 1, 1) := by decide +kernel
theorem dX6_hasRule_5 : decode cX6_hasRule 5 = .ok (.aload_n 0, 1) := by decide +kernel
theorem dX6_hasRule_6 : decode cX6_hasRule 6 = .ok (.getfield 52, 3) := by decide +kernel
theorem dX6_hasRule_9 : decode cX6_hasRule 9 = .ok (.if_icmp .ge 7, 3) := by decide +kernel
theorem dX6_hasRule_12 : decode cX6_hasRule 12 = .ok (.iconst 1, 1) := by decide +kernel
theorem dX6_hasRule_13 : decode cX6_hasRule 13 = .ok (.goto 4, 3) := by decide +kernel
set_option maxHeartbeats 4000000 in
set_option maxRecDepth 100000 in
theorem c_X6_copyFrom (l : Launch) (g : GG) (a0 : Nat → Nat) (s0 : T6) (a1 : Nat → Nat) (s1 : T6) (hne : (m_X6_copyFrom s0 s1) ≠ none) : Ct l g yX6_copyFrom cX6_copyFrom 2 none ({ frames := 2, cells := 0, slots := 0, locals := 43 } : Room) [.ref (a0 0), .ref (a1 0)] (wX6 a0 g s0 ++ wX6 a1 g s1) (Qv g (m_X6_copyFrom s0 s1) (fun u => wX6 a0 g (u.1, u.2.1, u.2.2.1, u.2.2.2.1, u.2.2.2.2.1, u.2.2.2.2.2.1, u.2.2.2.2.2.2.1, u.2.2.2.2.2.2.2.1, u.2.2.2.2.2.2.2.2.1, u.2.2.2.2.2.2.2.2.2.1, u.2.2.2.2.2.2.2.2.2.2.1, u.2.2.2.2.2.2.2.2.2.2.2, (p6_reached s0)) ++ wX6 a1 g s1)) 0 0 := by
  obtain ⟨out, hf⟩ := ne_ex hne
  have hf0 := hf
  refine Ct.of (own := RX6) (by decide +kernel) rfl (Nat.le_of_ble_eq_true rfl) ?_
  intro p e s m below meth c hx hb hr hml hown hts hlocks hin hK A H locs hA hP hD hS ls hl
  have hl : lv_has ls 2 [(0, .ref (a0 0)), (1, .ref (a1 0))] := hl
  unfold m_X6_copyFrom at hf
  refine lv_aload_n hx hb dX6_copyFrom_0 rfl (lv_at hl 0 rfl) ?_
  refine va_get (D := g.1) (ci := 7) (v := .ref (a0 1)) (C := RX6) (T := TX6) (N := 13) hx hb hts layX6 hown hK.1 hP 0 rfl rfl 0 (by decide) (hts _ kw49) (fun _ h9 => h9) rfl dX6_copyFrom_1 ?_
  refine lv_aload_n hx hb dX6_copyFrom_4 rfl (lv_at hl 1 rfl) ?_
  refine va_get (D := g.1) (ci := 7) (v := .ref (a1 1)) (C := RX6) (T := TX6) (N := 13) hx hb hts layX6 hown hK.1 hP 19 rfl rfl 0 (by decide) (hts _ kw49) (fun _ h9 => h9) rfl dX6_copyFrom_5 ?_
  refine cV hP hD hS hA (fun hPc hDc => rV (As := [.ref (a1 1)]) (rest := []) hx hb hml hown hts hK (c_X2_copyFrom l g (fun i => a0 (i + 1)) 7 (p6_raws s0) (fun i => a1 (i + 1)) 7 (p6_raws s1) (bnd_ne hf)) svV_X2_copyFrom kw380 rfl rfl hPc hDc rfl rfl hl.1 (Nat.le_of_ble_eq_true rfl) dX6_copyFrom_8 ⟨Nat.le_of_ble_eq_true rfl, Nat.le_of_ble_eq_true rfl, rfl, rfl, Nat.le_of_ble_eq_true rfl, Nat.le_of_ble_eq_true rfl⟩) [(1, 2), (20, 2)] rfl rfl rfl (fun _ => rfl) (fun x1 H locs ex1 hP hD hS => ?_)
  have hf := bnd_of hf ex1
  have hP : va_P g.1 vwCl (wX6 a0 g (x1, (p6_kinds s0), (p6_figures s0), (p6_heavies s0), (p6_places s0), (p6_papers s0), (p6_lowers s0), (p6_uppers s0), (p6_rules s0), (p6_bounds s0), (p6_boundCount s0), (p6_tieWay s0), (p6_reached s0)) ++ wX6 a1 g s1) H := hP
  have hD : va_D A (wX6 a0 g (x1, (p6_kinds s0), (p6_figures s0), (p6_heavies s0), (p6_places s0), (p6_papers s0), (p6_lowers s0), (p6_uppers s0), (p6_rules s0), (p6_bounds s0), (p6_boundCount s0), (p6_tieWay s0), (p6_reached s0)) ++ wX6 a1 g s1) := hD
  refine lv_aload_n hx hb dX6_copyFrom_11 rfl (lv_at hl 0 rfl) ?_
  refine va_get (D := g.1) (ci := 7) (v := .ref (a0 3)) (C := RX6) (T := TX6) (N := 13) hx hb hts layX6 hown hK.1 hP 0 rfl rfl 1 (by decide) (hts _ kw50) (fun _ h9 => h9) rfl dX6_copyFrom_12 ?_
  refine lv_aload_n hx hb dX6_copyFrom_15 rfl (lv_at hl 1 rfl) ?_
  refine va_get (D := g.1) (ci := 7) (v := .ref (a1 3)) (C := RX6) (T := TX6) (N := 13) hx hb hts layX6 hown hK.1 hP 19 rfl rfl 1 (by decide) (hts _ kw50) (fun _ h9 => h9) rfl dX6_copyFrom_16 ?_
  refine cV hP hD hS hA (fun hPc hDc => rV (As := [.ref (a1 3)]) (rest := []) hx hb hml hown hts hK (c_X2_copyFrom l g (fun i => a0 (i + 3)) 7 (p6_kinds s0) (fun i => a1 (i + 3)) 7 (p6_kinds s1) (bnd_ne hf)) svV_X2_copyFrom kw380 rfl rfl hPc hDc rfl rfl hl.1 (Nat.le_of_ble_eq_true rfl) dX6_copyFrom_19 ⟨Nat.le_of_ble_eq_true rfl, Nat.le_of_ble_eq_true rfl, rfl, rfl, Nat.le_of_ble_eq_true rfl, Nat.le_of_ble_eq_true rfl⟩) [(3, 2), (22, 2)] rfl rfl rfl (fun _ => rfl) (fun x2 H locs ex2 hP hD hS => ?_)
  have hf := bnd_of hf ex2
  have hP : va_P g.1 vwCl (wX6 a0 g (x1, x2, (p6_figures s0), (p6_heavies s0), (p6_places s0), (p6_papers s0), (p6_lowers s0), (p6_uppers s0), (p6_rules s0), (p6_bounds s0), (p6_boundCount s0), (p6_tieWay s0), (p6_reached s0)) ++ wX6 a1 g s1) H := hP
  have hD : va_D A (wX6 a0 g (x1, x2, (p6_figures s0), (p6_heavies s0), (p6_places s0), (p6_papers s0), (p6_lowers s0), (p6_uppers s0), (p6_rules s0), (p6_bounds s0), (p6_boundCount s0), (p6_tieWay s0), (p6_reached s0)) ++ wX6 a1 g s1) := hD
  refine lv_aload_n hx hb dX6_copyFrom_22 rfl (lv_at hl 0 rfl) ?_
  refine va_get (D := g.1) (ci := 7) (v := .ref (a0 5)) (C := RX6) (T := TX6) (N := 13) hx hb hts layX6 hown hK.1 hP 0 rfl rfl 2 (by decide) (hts _ kw51) (fun _ h9 => h9) rfl dX6_copyFrom_23 ?_
  refine lv_aload_n hx hb dX6_copyFrom_26 rfl (lv_at hl 1 rfl) ?_
  refine va_get (D := g.1) (ci := 7) (v := .ref (a1 5)) (C := RX6) (T := TX6) (N := 13) hx hb hts layX6 hown hK.1 hP 19 rfl rfl 2 (by decide) (hts _ kw51) (fun _ h9 => h9) rfl dX6_copyFrom_27 ?_
  refine cV hP hD hS hA (fun hPc hDc => rV (As := [.ref (a1 5)]) (rest := []) hx hb hml hown hts hK (c_X2_copyFrom l g (fun i => a0 (i + 5)) 7 (p6_figures s0) (fun i => a1 (i + 5)) 7 (p6_figures s1) (bnd_ne hf)) svV_X2_copyFrom kw380 rfl rfl hPc hDc rfl rfl hl.1 (Nat.le_of_ble_eq_true rfl) dX6_copyFrom_30 ⟨Nat.le_of_ble_eq_true rfl, Nat.le_of_ble_eq_true rfl, rfl, rfl, Nat.le_of_ble_eq_true rfl, Nat.le_of_ble_eq_true rfl⟩) [(5, 2), (24, 2)] rfl rfl rfl (fun _ => rfl) (fun x3 H locs ex3 hP hD hS => ?_)
  have hf := bnd_of hf ex3
  have hP : va_P g.1 vwCl (wX6 a0 g (x1, x2, x3, (p6_heavies s0), (p6_places s0), (p6_papers s0), (p6_lowers s0), (p6_uppers s0), (p6_rules s0), (p6_bounds s0), (p6_boundCount s0), (p6_tieWay s0), (p6_reached s0)) ++ wX6 a1 g s1) H := hP
  have hD : va_D A (wX6 a0 g (x1, x2, x3, (p6_heavies s0), (p6_places s0), (p6_papers s0), (p6_lowers s0), (p6_uppers s0), (p6_rules s0), (p6_bounds s0), (p6_boundCount s0), (p6_tieWay s0), (p6_reached s0)) ++ wX6 a1 g s1) := hD
  refine lv_aload_n hx hb dX6_copyFrom_33 rfl (lv_at hl 0 rfl) ?_
  refine va_get (D := g.1) (ci := 7) (v := .ref (a0 7)) (C := RX6) (T := TX6) (N := 13) hx hb hts layX6 hown hK.1 hP 0 rfl rfl 3 (by decide) (hts _ kw52) (fun _ h9 => h9) rfl dX6_copyFrom_34 ?_
  refine lv_aload_n hx hb dX6_copyFrom_37 rfl (lv_at hl 1 rfl) ?_
  refine va_get (D := g.1) (ci := 7) (v := .ref (a1 7)) (C := RX6) (T := TX6) (N := 13) hx hb hts layX6 hown hK.1 hP 19 rfl rfl 3 (by decide) (hts _ kw52) (fun _ h9 => h9) rfl dX6_copyFrom_38 ?_
  refine cV hP hD hS hA (fun hPc hDc => rV (As := [.ref (a1 7)]) (rest := []) hx hb hml hown hts hK (c_X2_copyFrom l g (fun i => a0 (i + 7)) 7 (p6_heavies s0) (fun i => a1 (i + 7)) 7 (p6_heavies s1) (bnd_ne hf)) svV_X2_copyFrom kw380 rfl rfl hPc hDc rfl rfl hl.1 (Nat.le_of_ble_eq_true rfl) dX6_copyFrom_41 ⟨Nat.le_of_ble_eq_true rfl, Nat.le_of_ble_eq_true rfl, rfl, rfl, Nat.le_of_ble_eq_true rfl, Nat.le_of_ble_eq_true rfl⟩) [(7, 2), (26, 2)] rfl rfl rfl (fun _ => rfl) (fun x4 H locs ex4 hP hD hS => ?_)
  have hf := bnd_of hf ex4
  have hP : va_P g.1 vwCl (wX6 a0 g (x1, x2, x3, x4, (p6_places s0), (p6_papers s0), (p6_lowers s0), (p6_uppers s0), (p6_rules s0), (p6_bounds s0), (p6_boundCount s0), (p6_tieWay s0), (p6_reached s0)) ++ wX6 a1 g s1) H := hP
  have hD : va_D A (wX6 a0 g (x1, x2, x3, x4, (p6_places s0), (p6_papers s0), (p6_lowers s0), (p6_uppers s0), (p6_rules s0), (p6_bounds s0), (p6_boundCount s0), (p6_tieWay s0), (p6_reached s0)) ++ wX6 a1 g s1) := hD
  refine lv_aload_n hx hb dX6_copyFrom_44 rfl (lv_at hl 0 rfl) ?_
  refine va_get (D := g.1) (ci := 7) (v := .ref (a0 9)) (C := RX6) (T := TX6) (N := 13) hx hb hts layX6 hown hK.1 hP 0 rfl rfl 4 (by decide) (hts _ kw53) (fun _ h9 => h9) rfl dX6_copyFrom_45 ?_
  refine lv_aload_n hx hb dX6_copyFrom_48 rfl (lv_at hl 1 rfl) ?_
  refine va_get (D := g.1) (ci := 7) (v := .ref (a1 9)) (C := RX6) (T := TX6) (N := 13) hx hb hts layX6 hown hK.1 hP 19 rfl rfl 4 (by decide) (hts _ kw53) (fun _ h9 => h9) rfl dX6_copyFrom_49 ?_
  refine cV hP hD hS hA (fun hPc hDc => rV (As := [.ref (a1 9)]) (rest := []) hx hb hml hown hts hK (c_X2_copyFrom l g (fun i => a0 (i + 9)) 7 (p6_places s0) (fun i => a1 (i + 9)) 7 (p6_places s1) (bnd_ne hf)) svV_X2_copyFrom kw380 rfl rfl hPc hDc rfl rfl hl.1 (Nat.le_of_ble_eq_true rfl) dX6_copyFrom_52 ⟨Nat.le_of_ble_eq_true rfl, Nat.le_of_ble_eq_true rfl, rfl, rfl, Nat.le_of_ble_eq_true rfl, Nat.le_of_ble_eq_true rfl⟩) [(9, 2), (28, 2)] rfl rfl rfl (fun _ => rfl) (fun x5 H locs ex5 hP hD hS => ?_)
  have hf := bnd_of hf ex5
  have hP : va_P g.1 vwCl (wX6 a0 g (x1, x2, x3, x4, x5, (p6_papers s0), (p6_lowers s0), (p6_uppers s0), (p6_rules s0), (p6_bounds s0), (p6_boundCount s0), (p6_tieWay s0), (p6_reached s0)) ++ wX6 a1 g s1) H := hP
  have hD : va_D A (wX6 a0 g (x1, x2, x3, x4, x5, (p6_papers s0), (p6_lowers s0), (p6_uppers s0), (p6_rules s0), (p6_bounds s0), (p6_boundCount s0), (p6_tieWay s0), (p6_reached s0)) ++ wX6 a1 g s1) := hD
  refine lv_aload_n hx hb dX6_copyFrom_55 rfl (lv_at hl 0 rfl) ?_
  refine lv_aload_n hx hb dX6_copyFrom_56 rfl (lv_at hl 1 rfl) ?_
  refine va_get (D := g.1) (ci := 7) (v := .int (p6_papers s1)) (C := RX6) (T := TX6) (N := 13) hx hb hts layX6 hown hK.1 hP 19 rfl rfl 5 (by decide) (hts _ kw54) (fun _ h9 => h9) rfl dX6_copyFrom_57 ?_
  refine va_put (D := g.1) (ci := 7) (v := .int (p6_papers s1)) (ty := .int) (C := RX6) (T := TX6) (N := 13) hx hb hts layX6 tyX6 tyX6_ok nmX6 hown hK.1 hP hD hS 0 rfl rfl 5 (by decide) (hts _ kw54) (fun _ h9 => h9) rfl (tyX6_ok 5 (by decide)) rfl rfl (Nat.le_of_ble_eq_true rfl) dX6_copyFrom_60 (fun H locs hP hD hS => ?_)
  have hP : va_P g.1 vwCl (wX6 a0 g (x1, x2, x3, x4, x5, (p6_papers s1), (p6_lowers s0), (p6_uppers s0), (p6_rules s0), (p6_bounds s0), (p6_boundCount s0), (p6_tieWay s0), (p6_reached s0)) ++ wX6 a1 g s1) H := hP
  have hD : va_D A (wX6 a0 g (x1, x2, x3, x4, x5, (p6_papers s1), (p6_lowers s0), (p6_uppers s0), (p6_rules s0), (p6_bounds s0), (p6_boundCount s0), (p6_tieWay s0), (p6_reached s0)) ++ wX6 a1 g s1) := hD
  refine lv_aload_n hx hb dX6_copyFrom_63 rfl (lv_at hl 0 rfl) ?_
  refine va_get (D := g.1) (ci := 7) (v := .ref (a0 11)) (C := RX6) (T := TX6) (N := 13) hx hb hts layX6 hown hK.1 hP 0 rfl rfl 6 (by decide) (hts _ kw55) (fun _ h9 => h9) rfl dX6_copyFrom_64 ?_
  refine lv_aload_n hx hb dX6_copyFrom_67 rfl (lv_at hl 1 rfl) ?_
  refine va_get (D := g.1) (ci := 7) (v := .ref (a1 11)) (C := RX6) (T := TX6) (N := 13) hx hb hts layX6 hown hK.1 hP 19 rfl rfl 6 (by decide) (hts _ kw55) (fun _ h9 => h9) rfl dX6_copyFrom_68 ?_
  refine cV hP hD hS hA (fun hPc hDc => rV (As := [.ref (a1 11)]) (rest := []) hx hb hml hown hts hK (c_X2_copyFrom l g (fun i => a0 (i + 11)) 12 (p6_lowers s0) (fun i => a1 (i + 11)) 12 (p6_lowers s1) (bnd_ne hf)) svV_X2_copyFrom kw380 rfl rfl hPc hDc rfl rfl hl.1 (Nat.le_of_ble_eq_true rfl) dX6_copyFrom_71 ⟨Nat.le_of_ble_eq_true rfl, Nat.le_of_ble_eq_true rfl, rfl, rfl, Nat.le_of_ble_eq_true rfl, Nat.le_of_ble_eq_true rfl⟩) [(11, 2), (30, 2)] rfl rfl rfl (fun _ => rfl) (fun x6 H locs ex6 hP hD hS => ?_)
  have hf := bnd_of hf ex6
  have hP : va_P g.1 vwCl (wX6 a0 g (x1, x2, x3, x4, x5, (p6_papers s1), x6, (p6_uppers s0), (p6_rules s0), (p6_bounds s0), (p6_boundCount s0), (p6_tieWay s0), (p6_reached s0)) ++ wX6 a1 g s1) H := hP
  have hD : va_D A (wX6 a0 g (x1, x2, x3, x4, x5, (p6_papers s1), x6, (p6_uppers s0), (p6_rules s0), (p6_bounds s0), (p6_boundCount s0), (p6_tieWay s0), (p6_reached s0)) ++ wX6 a1 g s1) := hD
  refine lv_aload_n hx hb dX6_copyFrom_74 rfl (lv_at hl 0 rfl) ?_
  refine va_get (D := g.1) (ci := 7) (v := .ref (a0 13)) (C := RX6) (T := TX6) (N := 13) hx hb hts layX6 hown hK.1 hP 0 rfl rfl 7 (by decide) (hts _ kw56) (fun _ h9 => h9) rfl dX6_copyFrom_75 ?_
  refine lv_aload_n hx hb dX6_copyFrom_78 rfl (lv_at hl 1 rfl) ?_
  refine va_get (D := g.1) (ci := 7) (v := .ref (a1 13)) (C := RX6) (T := TX6) (N := 13) hx hb hts layX6 hown hK.1 hP 19 rfl rfl 7 (by decide) (hts _ kw56) (fun _ h9 => h9) rfl dX6_copyFrom_79 ?_
  refine cV hP hD hS hA (fun hPc hDc => rV (As := [.ref (a1 13)]) (rest := []) hx hb hml hown hts hK (c_X2_copyFrom l g (fun i => a0 (i + 13)) 12 (p6_uppers s0) (fun i => a1 (i + 13)) 12 (p6_uppers s1) (bnd_ne hf)) svV_X2_copyFrom kw380 rfl rfl hPc hDc rfl rfl hl.1 (Nat.le_of_ble_eq_true rfl) dX6_copyFrom_82 ⟨Nat.le_of_ble_eq_true rfl, Nat.le_of_ble_eq_true rfl, rfl, rfl, Nat.le_of_ble_eq_true rfl, Nat.le_of_ble_eq_true rfl⟩) [(13, 2), (32, 2)] rfl rfl rfl (fun _ => rfl) (fun x7 H locs ex7 hP hD hS => ?_)
  have hf := bnd_of hf ex7
  have hP : va_P g.1 vwCl (wX6 a0 g (x1, x2, x3, x4, x5, (p6_papers s1), x6, x7, (p6_rules s0), (p6_bounds s0), (p6_boundCount s0), (p6_tieWay s0), (p6_reached s0)) ++ wX6 a1 g s1) H := hP
  have hD : va_D A (wX6 a0 g (x1, x2, x3, x4, x5, (p6_papers s1), x6, x7, (p6_rules s0), (p6_bounds s0), (p6_boundCount s0), (p6_tieWay s0), (p6_reached s0)) ++ wX6 a1 g s1) := hD
  refine lv_aload_n hx hb dX6_copyFrom_85 rfl (lv_at hl 0 rfl) ?_
  refine lv_aload_n hx hb dX6_copyFrom_86 rfl (lv_at hl 1 rfl) ?_
  refine va_get (D := g.1) (ci := 7) (v := .int (p6_rules s1)) (C := RX6) (T := TX6) (N := 13) hx hb hts layX6 hown hK.1 hP 19 rfl rfl 8 (by decide) (hts _ kw57) (fun _ h9 => h9) rfl dX6_copyFrom_87 ?_
  refine va_put (D := g.1) (ci := 7) (v := .int (p6_rules s1)) (ty := .int) (C := RX6) (T := TX6) (N := 13) hx hb hts layX6 tyX6 tyX6_ok nmX6 hown hK.1 hP hD hS 0 rfl rfl 8 (by decide) (hts _ kw57) (fun _ h9 => h9) rfl (tyX6_ok 8 (by decide)) rfl rfl (Nat.le_of_ble_eq_true rfl) dX6_copyFrom_90 (fun H locs hP hD hS => ?_)
  have hP : va_P g.1 vwCl (wX6 a0 g (x1, x2, x3, x4, x5, (p6_papers s1), x6, x7, (p6_rules s1), (p6_bounds s0), (p6_boundCount s0), (p6_tieWay s0), (p6_reached s0)) ++ wX6 a1 g s1) H := hP
  have hD : va_D A (wX6 a0 g (x1, x2, x3, x4, x5, (p6_papers s1), x6, x7, (p6_rules s1), (p6_bounds s0), (p6_boundCount s0), (p6_tieWay s0), (p6_reached s0)) ++ wX6 a1 g s1) := hD
  refine lv_aload_n hx hb dX6_copyFrom_93 rfl (lv_at hl 0 rfl) ?_
  refine va_get (D := g.1) (ci := 7) (v := .ref (a0 15)) (C := RX6) (T := TX6) (N := 13) hx hb hts layX6 hown hK.1 hP 0 rfl rfl 9 (by decide) (hts _ kw58) (fun _ h9 => h9) rfl dX6_copyFrom_94 ?_
  refine lv_aload_n hx hb dX6_copyFrom_97 rfl (lv_at hl 1 rfl) ?_
  refine va_get (D := g.1) (ci := 7) (v := .ref (a1 15)) (C := RX6) (T := TX6) (N := 13) hx hb hts layX6 hown hK.1 hP 19 rfl rfl 9 (by decide) (hts _ kw58) (fun _ h9 => h9) rfl dX6_copyFrom_98 ?_
  refine cV hP hD hS hA (fun hPc hDc => rV (As := [.ref (a1 15)]) (rest := []) hx hb hml hown hts hK (c_X2_copyFrom l g (fun i => a0 (i + 15)) 5 (p6_bounds s0) (fun i => a1 (i + 15)) 5 (p6_bounds s1) (bnd_ne hf)) svV_X2_copyFrom kw380 rfl rfl hPc hDc rfl rfl hl.1 (Nat.le_of_ble_eq_true rfl) dX6_copyFrom_101 ⟨Nat.le_of_ble_eq_true rfl, Nat.le_of_ble_eq_true rfl, rfl, rfl, Nat.le_of_ble_eq_true rfl, Nat.le_of_ble_eq_true rfl⟩) [(15, 2), (34, 2)] rfl rfl rfl (fun _ => rfl) (fun x8 H locs ex8 hP hD hS => ?_)
  have hf := bnd_of hf ex8
  have hP : va_P g.1 vwCl (wX6 a0 g (x1, x2, x3, x4, x5, (p6_papers s1), x6, x7, (p6_rules s1), x8, (p6_boundCount s0), (p6_tieWay s0), (p6_reached s0)) ++ wX6 a1 g s1) H := hP
  have hD : va_D A (wX6 a0 g (x1, x2, x3, x4, x5, (p6_papers s1), x6, x7, (p6_rules s1), x8, (p6_boundCount s0), (p6_tieWay s0), (p6_reached s0)) ++ wX6 a1 g s1) := hD
  refine lv_aload_n hx hb dX6_copyFrom_104 rfl (lv_at hl 0 rfl) ?_
  refine lv_aload_n hx hb dX6_copyFrom_105 rfl (lv_at hl 1 rfl) ?_
  refine va_get (D := g.1) (ci := 7) (v := .int (p6_boundCount s1)) (C := RX6) (T := TX6) (N := 13) hx hb hts layX6 hown hK.1 hP 19 rfl rfl 10 (by decide) (hts _ kw59) (fun _ h9 => h9) rfl dX6_copyFrom_106 ?_
  refine va_put (D := g.1) (ci := 7) (v := .int (p6_boundCount s1)) (ty := .int) (C := RX6) (T := TX6) (N := 13) hx hb hts layX6 tyX6 tyX6_ok nmX6 hown hK.1 hP hD hS 0 rfl rfl 10 (by decide) (hts _ kw59) (fun _ h9 => h9) rfl (tyX6_ok 10 (by decide)) rfl rfl (Nat.le_of_ble_eq_true rfl) dX6_copyFrom_109 (fun H locs hP hD hS => ?_)
  have hP : va_P g.1 vwCl (wX6 a0 g (x1, x2, x3, x4, x5, (p6_papers s1), x6, x7, (p6_rules s1), x8, (p6_boundCount s1), (p6_tieWay s0), (p6_reached s0)) ++ wX6 a1 g s1) H := hP
  have hD : va_D A (wX6 a0 g (x1, x2, x3, x4, x5, (p6_papers s1), x6, x7, (p6_rules s1), x8, (p6_boundCount s1), (p6_tieWay s0), (p6_reached s0)) ++ wX6 a1 g s1) := hD
  refine lv_aload_n hx hb dX6_copyFrom_112 rfl (lv_at hl 0 rfl) ?_
  refine lv_aload_n hx hb dX6_copyFrom_113 rfl (lv_at hl 1 rfl) ?_
  refine va_get (D := g.1) (ci := 7) (v := .int (p6_tieWay s1)) (C := RX6) (T := TX6) (N := 13) hx hb hts layX6 hown hK.1 hP 19 rfl rfl 11 (by decide) (hts _ kw60) (fun _ h9 => h9) rfl dX6_copyFrom_114 ?_
  refine va_put (D := g.1) (ci := 7) (v := .int (p6_tieWay s1)) (ty := .int) (C := RX6) (T := TX6) (N := 13) hx hb hts layX6 tyX6 tyX6_ok nmX6 hown hK.1 hP hD hS 0 rfl rfl 11 (by decide) (hts _ kw60) (fun _ h9 => h9) rfl (tyX6_ok 11 (by decide)) rfl rfl (Nat.le_of_ble_eq_true rfl) dX6_copyFrom_117 (fun H locs hP hD hS => ?_)
  have hP : va_P g.1 vwCl (wX6 a0 g (x1, x2, x3, x4, x5, (p6_papers s1), x6, x7, (p6_rules s1), x8, (p6_boundCount s1), (p6_tieWay s1), (p6_reached s0)) ++ wX6 a1 g s1) H := hP
  have hD : va_D A (wX6 a0 g (x1, x2, x3, x4, x5, (p6_papers s1), x6, x7, (p6_rules s1), x8, (p6_boundCount s1), (p6_tieWay s1), (p6_reached s0)) ++ wX6 a1 g s1) := hD
  exact retV (u := (x1, x2, x3, x4, x5, (p6_papers s1), x6, x7, (p6_rules s1), x8, (p6_boundCount s1), (p6_tieWay s1))) hx hb hr hlocks hS hP hD (hf0.trans hf.symm) dX6_copyFrom_120
set_option maxHeartbeats 4000000 in
set_option maxRecDepth 100000 in
theorem c_X6_paperCount (l : Launch) (g : GG) (a0 : Nat → Nat) (s0 : T6) (hne : (m_X6_paperCount s0) ≠ none) : Ct l g yX6_paperCount cX6_paperCount 1 (some .int) ({ frames := 0, cells := 0, slots := 0, locals := 0 } : Room) [.ref (a0 0)] (wX6 a0 g s0) (Qi g .int (m_X6_paperCount s0) (fun u => u) (fun u => wX6 a0 g s0)) 0 0 := by
  obtain ⟨out, hf⟩ := ne_ex hne
  have hf0 := hf
  refine Ct.of (own := RX6) (by decide +kernel) rfl (Nat.le_of_ble_eq_true rfl) ?_
  intro p e s m below meth c hx hb hr hml hown hts hlocks hin hK A H locs hA hP hD hS ls hl
  have hl : lv_has ls 1 [(0, .ref (a0 0))] := hl
  unfold m_X6_paperCount at hf
  refine lv_aload_n hx hb dX6_paperCount_0 rfl (lv_at hl 0 rfl) ?_
  refine va_get (D := g.1) (ci := 7) (v := .int (p6_papers s0)) (C := RX6) (T := TX6) (N := 13) hx hb hts layX6 hown hK.1 hP 0 rfl rfl 5 (by decide) (hts _ kw54) (fun _ h9 => h9) rfl dX6_paperCount_1 ?_
  exact retI (u := (p6_papers s0)) hx hb hr hlocks hS hP hD (hf0.trans hf.symm) rfl rfl dX6_paperCount_4
set_option maxHeartbeats 4000000 in
set_option maxRecDepth 100000 in
theorem c_X6_ruleCount (l : Launch) (g : GG) (a0 : Nat → Nat) (s0 : T6) (hne : (m_X6_ruleCount s0) ≠ none) : Ct l g yX6_ruleCount cX6_ruleCount 1 (some .int) ({ frames := 0, cells := 0, slots := 0, locals := 0 } : Room) [.ref (a0 0)] (wX6 a0 g s0) (Qi g .int (m_X6_ruleCount s0) (fun u => u) (fun u => wX6 a0 g s0)) 0 0 := by
  obtain ⟨out, hf⟩ := ne_ex hne
  have hf0 := hf
  refine Ct.of (own := RX6) (by decide +kernel) rfl (Nat.le_of_ble_eq_true rfl) ?_
  intro p e s m below meth c hx hb hr hml hown hts hlocks hin hK A H locs hA hP hD hS ls hl
  have hl : lv_has ls 1 [(0, .ref (a0 0))] := hl
  unfold m_X6_ruleCount at hf
  refine lv_aload_n hx hb dX6_ruleCount_0 rfl (lv_at hl 0 rfl) ?_
  refine va_get (D := g.1) (ci := 7) (v := .int (p6_rules s0)) (C := RX6) (T := TX6) (N := 13) hx hb hts layX6 hown hK.1 hP 0 rfl rfl 8 (by decide) (hts _ kw57) (fun _ h9 => h9) rfl dX6_ruleCount_1 ?_
  exact retI (u := (p6_rules s0)) hx hb hr hlocks hS hP hD (hf0.trans hf.symm) rfl rfl dX6_ruleCount_4
set_option maxHeartbeats 4000000 in
set_option maxRecDepth 100000 in
theorem c_X6_limitCount (l : Launch) (g : GG) (a0 : Nat → Nat) (s0 : T6) (hne : (m_X6_limitCount s0) ≠ none) : Ct l g yX6_limitCount cX6_limitCount 1 (some .int) ({ frames := 0, cells := 0, slots := 0, locals := 0 } : Room) [.ref (a0 0)] (wX6 a0 g s0) (Qi g .int (m_X6_limitCount s0) (fun u => u) (fun u => wX6 a0 g s0)) 0 0 := by
  obtain ⟨out, hf⟩ := ne_ex hne
  have hf0 := hf
  refine Ct.of (own := RX6) (by decide +kernel) rfl (Nat.le_of_ble_eq_true rfl) ?_
  intro p e s m below meth c hx hb hr hml hown hts hlocks hin hK A H locs hA hP hD hS ls hl
  have hl : lv_has ls 1 [(0, .ref (a0 0))] := hl
  unfold m_X6_limitCount at hf
  refine lv_aload_n hx hb dX6_limitCount_0 rfl (lv_at hl 0 rfl) ?_
  refine va_get (D := g.1) (ci := 7) (v := .int (p6_boundCount s0)) (C := RX6) (T := TX6) (N := 13) hx hb hts layX6 hown hK.1 hP 0 rfl rfl 10 (by decide) (hts _ kw59) (fun _ h9 => h9) rfl dX6_limitCount_1 ?_
  exact retI (u := (p6_boundCount s0)) hx hb hr hlocks hS hP hD (hf0.trans hf.symm) rfl rfl dX6_limitCount_4
set_option maxHeartbeats 4000000 in
set_option maxRecDepth 100000 in
theorem c_X6_tiesNow (l : Launch) (g : GG) (a0 : Nat → Nat) (s0 : T6) (hne : (m_X6_tiesNow s0) ≠ none) : Ct l g yX6_tiesNow cX6_tiesNow 1 (some .int) ({ frames := 0, cells := 0, slots := 0, locals := 0 } : Room) [.ref (a0 0)] (wX6 a0 g s0) (Qi g .int (m_X6_tiesNow s0) (fun u => u) (fun u => wX6 a0 g s0)) 0 0 := by
  obtain ⟨out, hf⟩ := ne_ex hne
  have hf0 := hf
  refine Ct.of (own := RX6) (by decide +kernel) rfl (Nat.le_of_ble_eq_true rfl) ?_
  intro p e s m below meth c hx hb hr hml hown hts hlocks hin hK A H locs hA hP hD hS ls hl
  have hl : lv_has ls 1 [(0, .ref (a0 0))] := hl
  unfold m_X6_tiesNow at hf
  refine lv_aload_n hx hb dX6_tiesNow_0 rfl (lv_at hl 0 rfl) ?_
  refine va_get (D := g.1) (ci := 7) (v := .int (p6_tieWay s0)) (C := RX6) (T := TX6) (N := 13) hx hb hts layX6 hown hK.1 hP 0 rfl rfl 11 (by decide) (hts _ kw60) (fun _ h9 => h9) rfl dX6_tiesNow_1 ?_
  exact retI (u := (p6_tieWay s0)) hx hb hr hlocks hS hP hD (hf0.trans hf.symm) rfl rfl dX6_tiesNow_4
set_option maxHeartbeats 4000000 in
set_option maxRecDepth 100000 in
theorem c_X6_hasPaper (l : Launch) (g : GG) (a0 : Nat → Nat) (s0 : T6) (p1 : Int32) (hne : (m_X6_hasPaper s0 p1) ≠ none) : Ct l g yX6_hasPaper cX6_hasPaper 2 (some .boolean) ({ frames := 0, cells := 0, slots := 0, locals := 0 } : Room) [.ref (a0 0), .int p1] (wX6 a0 g s0) (Qi g .boolean (m_X6_hasPaper s0 p1) (fun u => u) (fun u => wX6 a0 g s0)) 0 0 := by
  obtain ⟨out, hf⟩ := ne_ex hne
  have hf0 := hf
  refine Ct.of (own := RX6) (by decide +kernel) rfl (Nat.le_of_ble_eq_true rfl) ?_
  intro p e s m below meth c hx hb hr hml hown hts hlocks hin hK A H locs hA hP hD hS ls hl
  have hl : lv_has ls 2 [(0, .ref (a0 0)), (1, .int p1)] := hl
  unfold m_X6_hasPaper at hf
  refine lv_iload_n hx hb dX6_hasPaper_0 rfl (lv_at hl 1 rfl) ?_
  refine lv_if_lt (tgt := 16) hx hb dX6_hasPaper_1 (by decide) (fun cb => ?_) (fun cb => ?_)
  · have hf := it_t cb hf
    refine lv_iconst (v := 0) hx hb dX6_hasPaper_16 (by decide) ?_
    exact retI (u := (0 : Int32)) hx hb hr hlocks hS hP hD (hf0.trans hf.symm) rfl rfl dX6_hasPaper_17
  have hf := it_f cb hf
  refine lv_iload_n hx hb dX6_hasPaper_4 rfl (lv_at hl 1 rfl) ?_
  refine lv_aload_n hx hb dX6_hasPaper_5 rfl (lv_at hl 0 rfl) ?_
  refine va_get (D := g.1) (ci := 7) (v := .int (p6_papers s0)) (C := RX6) (T := TX6) (N := 13) hx hb hts layX6 hown hK.1 hP 0 rfl rfl 5 (by decide) (hts _ kw54) (fun _ h9 => h9) rfl dX6_hasPaper_6 ?_
  refine lv_icmp_ge (tgt := 16) hx hb dX6_hasPaper_9 (by decide) (fun cb => ?_) (fun cb => ?_)
  · have hf := it_t cb hf
    refine lv_iconst (v := 0) hx hb dX6_hasPaper_16 (by decide) ?_
    exact retI (u := (0 : Int32)) hx hb hr hlocks hS hP hD (hf0.trans hf.symm) rfl rfl dX6_hasPaper_17
  have hf := it_f cb hf
  refine lv_iconst (v := 1) hx hb dX6_hasPaper_12 (by decide) ?_
  refine lv_goto (tgt := 17) hx hb dX6_hasPaper_13 (by decide) ?_
  exact retI (u := (1 : Int32)) hx hb hr hlocks hS hP hD (hf0.trans hf.symm) rfl rfl dX6_hasPaper_17
set_option maxHeartbeats 4000000 in
set_option maxRecDepth 100000 in
theorem c_X6_areTwo (l : Launch) (g : GG) (a0 : Nat → Nat) (s0 : T6) (p1 : Int32) (p2 : Int32) (hne : (m_X6_areTwo s0 p1 p2) ≠ none) : Ct l g yX6_areTwo cX6_areTwo 3 (some .boolean) ({ frames := 1, cells := 0, slots := 0, locals := 21 } : Room) [.ref (a0 0), .int p1, .int p2] (wX6 a0 g s0) (Qi g .boolean (m_X6_areTwo s0 p1 p2) (fun u => u) (fun u => wX6 a0 g s0)) 0 0 := by
  obtain ⟨out, hf⟩ := ne_ex hne
  have hf0 := hf
  refine Ct.of (own := RX6) (by decide +kernel) rfl (Nat.le_of_ble_eq_true rfl) ?_
  intro p e s m below meth c hx hb hr hml hown hts hlocks hin hK A H locs hA hP hD hS ls hl
  have hl : lv_has ls 3 [(0, .ref (a0 0)), (1, .int p1), (2, .int p2)] := hl
  unfold m_X6_areTwo at hf
  refine lv_aload_n hx hb dX6_areTwo_0 rfl (lv_at hl 0 rfl) ?_
  refine lv_iload_n hx hb dX6_areTwo_1 rfl (lv_at hl 1 rfl) ?_
  refine cIp hP hD hS hA (fun hPc hDc => rV (As := [.int p1]) (rest := []) hx hb hml hown hts hK (c_X6_hasPaper l g a0 s0 p1 (bnd_ne hf)) svV_X6_hasPaper kw413 rfl rfl hPc hDc rfl rfl hl.1 (Nat.le_of_ble_eq_true rfl) dX6_areTwo_2 ⟨Nat.le_of_ble_eq_true rfl, Nat.le_of_ble_eq_true rfl, rfl, rfl, Nat.le_of_ble_eq_true rfl, Nat.le_of_ble_eq_true rfl⟩) [(0, 19)] rfl rfl rfl (fun x1 H locs ex1 nx1 hP hS => ?_)
  have hf := bnd_of hf ex1
  refine lv_if_eq (tgt := 25) hx hb dX6_areTwo_5 (by decide) (fun cb => ?_) (fun cb => ?_)
  · have hf := it_t cb hf
    refine lv_iconst (v := 0) hx hb dX6_areTwo_25 (by decide) ?_
    exact retI (u := (0 : Int32)) hx hb hr hlocks hS hP hD (hf0.trans hf.symm) rfl rfl dX6_areTwo_26
  have hf := it_f cb hf
  refine lv_aload_n hx hb dX6_areTwo_8 rfl (lv_at hl 0 rfl) ?_
  refine lv_iload_n hx hb dX6_areTwo_9 rfl (lv_at hl 2 rfl) ?_
  refine cIp hP hD hS hA (fun hPc hDc => rV (As := [.int p2]) (rest := []) hx hb hml hown hts hK (c_X6_hasPaper l g a0 s0 p2 (bnd_ne hf)) svV_X6_hasPaper kw413 rfl rfl hPc hDc rfl rfl hl.1 (Nat.le_of_ble_eq_true rfl) dX6_areTwo_10 ⟨Nat.le_of_ble_eq_true rfl, Nat.le_of_ble_eq_true rfl, rfl, rfl, Nat.le_of_ble_eq_true rfl, Nat.le_of_ble_eq_true rfl⟩) [(0, 19)] rfl rfl rfl (fun x2 H locs ex2 nx2 hP hS => ?_)
  have hf := bnd_of hf ex2
  refine lv_if_eq (tgt := 25) hx hb dX6_areTwo_13 (by decide) (fun cb => ?_) (fun cb => ?_)
  · have hf := it_t cb hf
    refine lv_iconst (v := 0) hx hb dX6_areTwo_25 (by decide) ?_
    exact retI (u := (0 : Int32)) hx hb hr hlocks hS hP hD (hf0.trans hf.symm) rfl rfl dX6_areTwo_26
  have hf := it_f cb hf
  refine lv_iload_n hx hb dX6_areTwo_16 rfl (lv_at hl 1 rfl) ?_
  refine lv_iload_n hx hb dX6_areTwo_17 rfl (lv_at hl 2 rfl) ?_
  refine lv_icmp_eq (tgt := 25) hx hb dX6_areTwo_18 (by decide) (fun cb => ?_) (fun cb => ?_)
  · have hf := it_t cb hf
    refine lv_iconst (v := 0) hx hb dX6_areTwo_25 (by decide) ?_
    exact retI (u := (0 : Int32)) hx hb hr hlocks hS hP hD (hf0.trans hf.symm) rfl rfl dX6_areTwo_26
  have hf := it_f cb hf
  refine lv_iconst (v := 1) hx hb dX6_areTwo_21 (by decide) ?_
  refine lv_goto (tgt := 26) hx hb dX6_areTwo_22 (by decide) ?_
  exact retI (u := (1 : Int32)) hx hb hr hlocks hS hP hD (hf0.trans hf.symm) rfl rfl dX6_areTwo_26
set_option maxHeartbeats 4000000 in
set_option maxRecDepth 100000 in
theorem c_X6_hasRule (l : Launch) (g : GG) (a0 : Nat → Nat) (s0 : T6) (p1 : Int32) (hne : (m_X6_hasRule s0 p1) ≠ none) : Ct l g yX6_hasRule cX6_hasRule 2 (some .boolean) ({ frames := 0, cells := 0, slots := 0, locals := 0 } : Room) [.ref (a0 0), .int p1] (wX6 a0 g s0) (Qi g .boolean (m_X6_hasRule s0 p1) (fun u => u) (fun u => wX6 a0 g s0)) 0 0 := by
  obtain ⟨out, hf⟩ := ne_ex hne
  have hf0 := hf
  refine Ct.of (own := RX6) (by decide +kernel) rfl (Nat.le_of_ble_eq_true rfl) ?_
  intro p e s m below meth c hx hb hr hml hown hts hlocks hin hK A H locs hA hP hD hS ls hl
  have hl : lv_has ls 2 [(0, .ref (a0 0)), (1, .int p1)] := hl
  unfold m_X6_hasRule at hf
  refine lv_iload_n hx hb dX6_hasRule_0 rfl (lv_at hl 1 rfl) ?_
  refine lv_if_lt (tgt := 16) hx hb dX6_hasRule_1 (by decide) (fun cb => ?_) (fun cb => ?_)
  · have hf := it_t cb hf
    refine lv_iconst (v := 0) hx hb dX6_hasRule_16 (by decide) ?_
    exact retI (u := (0 : Int32)) hx hb hr hlocks hS hP hD (hf0.trans hf.symm) rfl rfl dX6_hasRule_17
  have hf := it_f cb hf
  refine lv_iload_n hx hb dX6_hasRule_4 rfl (lv_at hl 1 rfl) ?_
  refine lv_aload_n hx hb dX6_hasRule_5 rfl (lv_at hl 0 rfl) ?_
  refine va_get (D := g.1) (ci := 7) (v := .int (p6_rules s0)) (C := RX6) (T := TX6) (N := 13) hx hb hts layX6 hown hK.1 hP 0 rfl rfl 8 (by decide) (hts _ kw57) (fun _ h9 => h9) rfl dX6_hasRule_6 ?_
  refine lv_icmp_ge (tgt := 16) hx hb dX6_hasRule_9 (by decide) (fun cb => ?_) (fun cb => ?_)
  · have hf := it_t cb hf
    refine lv_iconst (v := 0) hx hb dX6_hasRule_16 (by decide) ?_
    exact retI (u := (0 : Int32)) hx hb hr hlocks hS hP hD (hf0.trans hf.symm) rfl rfl dX6_hasRule_17
  have hf := it_f cb hf
  refine lv_iconst (v := 1) hx hb dX6_hasRule_12 (by decide) ?_
  refine lv_goto (tgt := 17) hx hb dX6_hasRule_13 (by decide) ?_
  exact retI (u := (1 : Int32)) hx hb hr hlocks hS hP hD (hf0.trans hf.symm) rfl rfl dX6_hasRule_17
