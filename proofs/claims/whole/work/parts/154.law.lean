theorem svV_X9_look : SV RX9 yX9_look cX9_look 3 (some .long) 2 := ⟨kw1213, kw1214, kw1, kw1215, rfl, by decide, by decide, by decide +kernel⟩
theorem svV_X10_look : SV RX10 yX10_look cX10_look 3 (some .long) 2 := ⟨kw1695, kw1696, kw16, kw1697, rfl, by decide, by decide, by decide +kernel⟩
theorem svV_X9_lays : SV RX9 yX9_lays cX9_lays 5 (some .int) 3 := ⟨kw1223, kw1224, kw1, kw1225, rfl, by decide, by decide, by decide +kernel⟩
theorem svV_X10_lays : SV RX10 yX10_lays cX10_lays 5 (some .int) 3 := ⟨kw1701, kw1702, kw16, kw1703, rfl, by decide, by decide, by decide +kernel⟩
theorem svV_X9_judge : SV RX9 yX9_judge cX9_judge 4 (some .int) 2 := ⟨kw1237, kw1238, kw1, kw1239, rfl, by decide, by decide, by decide +kernel⟩
theorem svV_X10_judge : SV RX10 yX10_judge cX10_judge 4 (some .int) 2 := ⟨kw1708, kw1709, kw16, kw1710, rfl, by decide, by decide, by decide +kernel⟩
theorem svV_X9_image : SV RX9 yX9_image cX9_image 1 (some .int) 0 := ⟨kw1246, kw1247, kw1, kw1248, rfl, by decide, by decide, by decide +kernel⟩
theorem svV_X10_image : SV RX10 yX10_image cX10_image 1 (some .int) 0 := ⟨kw1758, kw1759, kw16, kw1760, rfl, by decide, by decide, by decide +kernel⟩
theorem svV_X9_on : SV RX9 yX9_on cX9_on 1 (some .int) 0 := ⟨kw1250, kw1251, kw1, kw1252, rfl, by decide, by decide, by decide +kernel⟩
theorem svV_X10_on : SV RX10 yX10_on cX10_on 1 (some .int) 0 := ⟨kw1762, kw1763, kw16, kw1764, rfl, by decide, by decide, by decide +kernel⟩
theorem svV_X9_count : SV RX9 yX9_count cX9_count 2 (some .int) 1 := ⟨kw1254, kw1255, kw1, kw1256, rfl, by decide, by decide, by decide +kernel⟩
theorem svV_X10_count : SV RX10 yX10_count cX10_count 2 (some .int) 1 := ⟨kw1766, kw1767, kw16, kw1768, rfl, by decide, by decide, by decide +kernel⟩
theorem dL_law_1370 : decode cL_law 1370 = .ok (.aload_n 1, 1) := by decide +kernel
theorem dL_law_1371 : decode cL_law 1371 = .ok (.aload_n 0, 1) := by decide +kernel
theorem dL_law_1372 : decode cL_law 1372 = .ok (.iload_n 3, 1) := by decide +kernel
theorem dL_law_1373 : decode cL_law 1373 = .ok (.iconst 1, 1) := by decide +kernel
theorem dL_law_1374 : decode cL_law 1374 = .ok (.iadd, 1) := by decide +kernel
theorem dL_law_1375 : decode cL_law 1375 = .ok (.iaload, 1) := by decide +kernel
theorem dL_law_1376 : decode cL_law 1376 = .ok (.aload_n 0, 1) := by decide +kernel
theorem dL_law_1377 : decode cL_law 1377 = .ok (.iload_n 3, 1) := by decide +kernel
theorem dL_law_1378 : decode cL_law 1378 = .ok (.iconst 2, 1) := by decide +kernel
theorem dL_law_1379 : decode cL_law 1379 = .ok (.iadd, 1) := by decide +kernel
theorem dL_law_1380 : decode cL_law 1380 = .ok (.iaload, 1) := by decide +kernel
theorem dL_law_1381 : decode cL_law 1381 = .ok (.invokevirtual 167, 3) := by decide +kernel
theorem dL_law_1384 : decode cL_law 1384 = .ok (.aload_n 2, 1) := by decide +kernel
theorem dL_law_1385 : decode cL_law 1385 = .ok (.aload_n 0, 1) := by decide +kernel
theorem dL_law_1386 : decode cL_law 1386 = .ok (.iload_n 3, 1) := by decide +kernel
theorem dL_law_1387 : decode cL_law 1387 = .ok (.iconst 1, 1) := by decide +kernel
theorem dL_law_1388 : decode cL_law 1388 = .ok (.iadd, 1) := by decide +kernel
theorem dL_law_1389 : decode cL_law 1389 = .ok (.iaload, 1) := by decide +kernel
theorem dL_law_1390 : decode cL_law 1390 = .ok (.aload_n 0, 1) := by decide +kernel
theorem dL_law_1391 : decode cL_law 1391 = .ok (.iload_n 3, 1) := by decide +kernel
theorem dL_law_1392 : decode cL_law 1392 = .ok (.iconst 2, 1) := by decide +kernel
theorem dL_law_1393 : decode cL_law 1393 = .ok (.iadd, 1) := by decide +kernel
theorem dL_law_1394 : decode cL_law 1394 = .ok (.iaload, 1) := by decide +kernel
theorem dL_law_1395 : decode cL_law 1395 = .ok (.invokevirtual 170, 3) := by decide +kernel
theorem dL_law_1398 : decode cL_law 1398 = .ok (.lcmp, 1) := by decide +kernel
theorem dL_law_1399 : decode cL_law 1399 = .ok (.ifCond .eq 130, 3) := by decide +kernel
theorem dL_law_1404 : decode cL_law 1404 = .ok (.aload_n 1, 1) := by decide +kernel
theorem dL_law_1405 : decode cL_law 1405 = .ok (.aload_n 0, 1) := by decide +kernel
theorem dL_law_1406 : decode cL_law 1406 = .ok (.iload_n 3, 1) := by decide +kernel
theorem dL_law_1407 : decode cL_law 1407 = .ok (.iconst 1, 1) := by decide +kernel
theorem dL_law_1408 : decode cL_law 1408 = .ok (.iadd, 1) := by decide +kernel
theorem dL_law_1409 : decode cL_law 1409 = .ok (.iaload, 1) := by decide +kernel
theorem dL_law_1410 : decode cL_law 1410 = .ok (.aload_n 0, 1) := by decide +kernel
theorem dL_law_1411 : decode cL_law 1411 = .ok (.iload_n 3, 1) := by decide +kernel
theorem dL_law_1412 : decode cL_law 1412 = .ok (.iconst 2, 1) := by decide +kernel
theorem dL_law_1413 : decode cL_law 1413 = .ok (.iadd, 1) := by decide +kernel
theorem dL_law_1414 : decode cL_law 1414 = .ok (.iaload, 1) := by decide +kernel
theorem dL_law_1415 : decode cL_law 1415 = .ok (.aload_n 0, 1) := by decide +kernel
theorem dL_law_1416 : decode cL_law 1416 = .ok (.iload_n 3, 1) := by decide +kernel
theorem dL_law_1417 : decode cL_law 1417 = .ok (.iconst 3, 1) := by decide +kernel
theorem dL_law_1418 : decode cL_law 1418 = .ok (.iadd, 1) := by decide +kernel
theorem dL_law_1419 : decode cL_law 1419 = .ok (.iaload, 1) := by decide +kernel
theorem dL_law_1420 : decode cL_law 1420 = .ok (.invokevirtual 171, 3) := by decide +kernel
theorem dL_law_1423 : decode cL_law 1423 = .ok (.aload_n 2, 1) := by decide +kernel
theorem dL_law_1424 : decode cL_law 1424 = .ok (.aload_n 0, 1) := by decide +kernel
theorem dL_law_1425 : decode cL_law 1425 = .ok (.iload_n 3, 1) := by decide +kernel
theorem dL_law_1426 : decode cL_law 1426 = .ok (.iconst 1, 1) := by decide +kernel
theorem dL_law_1427 : decode cL_law 1427 = .ok (.iadd, 1) := by decide +kernel
theorem dL_law_1428 : decode cL_law 1428 = .ok (.iaload, 1) := by decide +kernel
theorem dL_law_1429 : decode cL_law 1429 = .ok (.aload_n 0, 1) := by decide +kernel
theorem dL_law_1430 : decode cL_law 1430 = .ok (.iload_n 3, 1) := by decide +kernel
theorem dL_law_1431 : decode cL_law 1431 = .ok (.iconst 2, 1) := by decide +kernel
theorem dL_law_1432 : decode cL_law 1432 = .ok (.iadd, 1) := by decide +kernel
theorem dL_law_1433 : decode cL_law 1433 = .ok (.iaload, 1) := by decide +kernel
theorem dL_law_1434 : decode cL_law 1434 = .ok (.aload_n 0, 1) := by decide +kernel
theorem dL_law_1435 : decode cL_law 1435 = .ok (.iload_n 3, 1) := by decide +kernel
theorem dL_law_1436 : decode cL_law 1436 = .ok (.iconst 3, 1) := by decide +kernel
theorem dL_law_1437 : decode cL_law 1437 = .ok (.iadd, 1) := by decide +kernel
theorem dL_law_1438 : decode cL_law 1438 = .ok (.iaload, 1) := by decide +kernel
theorem dL_law_1439 : decode cL_law 1439 = .ok (.invokevirtual 174, 3) := by decide +kernel
theorem dL_law_1442 : decode cL_law 1442 = .ok (.if_icmp .eq 87, 3) := by decide +kernel
theorem dL_law_1447 : decode cL_law 1447 = .ok (.aload_n 1, 1) := by decide +kernel
theorem dL_law_1448 : decode cL_law 1448 = .ok (.aload_n 0, 1) := by decide +kernel
theorem dL_law_1449 : decode cL_law 1449 = .ok (.iload_n 3, 1) := by decide +kernel
theorem dL_law_1450 : decode cL_law 1450 = .ok (.iconst 1, 1) := by decide +kernel
theorem dL_law_1451 : decode cL_law 1451 = .ok (.iadd, 1) := by decide +kernel
theorem dL_law_1452 : decode cL_law 1452 = .ok (.iaload, 1) := by decide +kernel
theorem dL_law_1453 : decode cL_law 1453 = .ok (.aload_n 0, 1) := by decide +kernel
theorem dL_law_1454 : decode cL_law 1454 = .ok (.iload_n 3, 1) := by decide +kernel
theorem dL_law_1455 : decode cL_law 1455 = .ok (.iconst 2, 1) := by decide +kernel
theorem dL_law_1456 : decode cL_law 1456 = .ok (.iadd, 1) := by decide +kernel
theorem dL_law_1457 : decode cL_law 1457 = .ok (.iaload, 1) := by decide +kernel
theorem dL_law_1458 : decode cL_law 1458 = .ok (.invokevirtual 175, 3) := by decide +kernel
theorem dL_law_1461 : decode cL_law 1461 = .ok (.aload_n 2, 1) := by decide +kernel
theorem dL_law_1462 : decode cL_law 1462 = .ok (.aload_n 0, 1) := by decide +kernel
theorem dL_law_1463 : decode cL_law 1463 = .ok (.iload_n 3, 1) := by decide +kernel
theorem dL_law_1464 : decode cL_law 1464 = .ok (.iconst 1, 1) := by decide +kernel
theorem dL_law_1465 : decode cL_law 1465 = .ok (.iadd, 1) := by decide +kernel
theorem dL_law_1466 : decode cL_law 1466 = .ok (.iaload, 1) := by decide +kernel
theorem dL_law_1467 : decode cL_law 1467 = .ok (.aload_n 0, 1) := by decide +kernel
theorem dL_law_1468 : decode cL_law 1468 = .ok (.iload_n 3, 1) := by decide +kernel
theorem dL_law_1469 : decode cL_law 1469 = .ok (.iconst 2, 1) := by decide +kernel
theorem dL_law_1470 : decode cL_law 1470 = .ok (.iadd, 1) := by decide +kernel
theorem dL_law_1471 : decode cL_law 1471 = .ok (.iaload, 1) := by decide +kernel
theorem dL_law_1472 : decode cL_law 1472 = .ok (.invokevirtual 178, 3) := by decide +kernel
theorem dL_law_1475 : decode cL_law 1475 = .ok (.if_icmp .eq 54, 3) := by decide +kernel
theorem dL_law_1480 : decode cL_law 1480 = .ok (.aload_n 1, 1) := by decide +kernel
theorem dL_law_1481 : decode cL_law 1481 = .ok (.invokevirtual 179, 3) := by decide +kernel
theorem dL_law_1484 : decode cL_law 1484 = .ok (.aload_n 2, 1) := by decide +kernel
theorem dL_law_1485 : decode cL_law 1485 = .ok (.invokevirtual 182, 3) := by decide +kernel
theorem dL_law_1488 : decode cL_law 1488 = .ok (.if_icmp .eq 41, 3) := by decide +kernel
theorem dL_law_1493 : decode cL_law 1493 = .ok (.aload_n 1, 1) := by decide +kernel
theorem dL_law_1494 : decode cL_law 1494 = .ok (.invokevirtual 183, 3) := by decide +kernel
theorem dL_law_1497 : decode cL_law 1497 = .ok (.aload_n 2, 1) := by decide +kernel
theorem dL_law_1498 : decode cL_law 1498 = .ok (.invokevirtual 186, 3) := by decide +kernel
theorem dL_law_1501 : decode cL_law 1501 = .ok (.if_icmp .eq 28, 3) := by decide +kernel
theorem dL_law_1506 : decode cL_law 1506 = .ok (.aload_n 1, 1) := by decide +kernel
theorem dL_law_1507 : decode cL_law 1507 = .ok (.aload_n 0, 1) := by decide +kernel
theorem dL_law_1508 : decode cL_law 1508 = .ok (.iload_n 3, 1) := by decide +kernel
theorem dL_law_1509 : decode cL_law 1509 = .ok (.iconst 1, 1) := by decide +kernel
theorem dL_law_1510 : decode cL_law 1510 = .ok (.iadd, 1) := by decide +kernel
theorem dL_law_1511 : decode cL_law 1511 = .ok (.iaload, 1) := by decide +kernel
theorem dL_law_1512 : decode cL_law 1512 = .ok (.invokevirtual 187, 3) := by decide +kernel
theorem dL_law_1515 : decode cL_law 1515 = .ok (.aload_n 2, 1) := by decide +kernel
theorem dL_law_1516 : decode cL_law 1516 = .ok (.aload_n 0, 1) := by decide +kernel
theorem dL_law_1517 : decode cL_law 1517 = .ok (.iload_n 3, 1) := by decide +kernel
theorem dL_law_1518 : decode cL_law 1518 = .ok (.iconst 1, 1) := by decide +kernel
theorem dL_law_1519 : decode cL_law 1519 = .ok (.iadd, 1) := by decide +kernel
theorem dL_law_1520 : decode cL_law 1520 = .ok (.iaload, 1) := by decide +kernel
theorem dL_law_1521 : decode cL_law 1521 = .ok (.invokevirtual 190, 3) := by decide +kernel
theorem dL_law_1524 : decode cL_law 1524 = .ok (.if_icmp .eq 5, 3) := by decide +kernel
/-- look -/
abbrev OP_look (Rel : T9 → T10 → Prop) : Prop := ∀ (s9 : T9) (s10 : T10) (p1 p2 : Int32), Rel s9 s10 → ∃ u v, m_X9_look s9 p1 p2 = some u ∧ m_X10_look s10 p1 p2 = some v ∧ u.1 = v.1 ∧ Rel (st_X9_look s9 u) (st_X10_look s10 v)
set_option maxHeartbeats 4000000 in
set_option maxRecDepth 100000 in
theorem law_look {p : Program} {e : Env} {s : State} {m : MethodId} {below : List Frame} {meth : Method} {c : Code} (l : Launch) (g : GG) (Rel : T9 → T10 → Prop) (hop : OP_look Rel) {b L : Nat} {xs : Nat → Int32} (hL : L ≤ 2560) (hx : p.tables.exec = Jvm.exec) (hb : c.code = code) (hml : c.maxLocals = 4) (hown : s.vm.findClass RL = some m.cls) (hts : ∀ w ∈ G, w.before #[Value.ref b] s = true) (hX : va_X b L xs s s.heap) (hbl : b < s.heap.size) (hK : NK g s) (hE : SK g (fun q : Nat => s.heap.size ≤ q) s s.heap) (a0 a1 : Nat → Nat) (i : Nat) (hi : i + 5 ≤ L) (s9 : T9) (s10 : T10) (hR : Rel s9 s10) {H : Heap} {locs : List Loc} {ls : Array Slot} {cells slots : Nat} (hcl0 : cells + 24 ≤ 600000) (hsl0 : slots + 7200 ≤ 7302250) (hP : va_P g.1 vwCl (w9s a0 g s9 ++ w10s a1 g s10) H) (hD : va_D (fun q : Nat => s.heap.size ≤ q) (w9s a0 g s9 ++ w10s a1 g s10)) (hS : va_S (fun q : Nat => s.heap.size ≤ q) s.heap H locs) (hl : lv_has ls 4 [(3, .int (nI i)), (0, .ref b), (1, .ref (a0 0)), (2, .ref (a1 0))])
    (kk : ∀ (s9 : T9) (s10 : T10) (H : Heap) (locs : List Loc), Rel s9 s10 → va_P g.1 vwCl (w9s a0 g s9 ++ w10s a1 g s10) H → va_D (fun q : Nat => s.heap.size ≤ q) (w9s a0 g s9 ++ w10s a1 g s10) → va_S (fun q : Nat => s.heap.size ≤ q) s.heap H locs → W p l e room_1 s m #[Value.ref b] below meth c H locs (cells + 24) (slots + 7200) (lw_Z below #[Value.ref b] s) (F0 m 1529 ls [])) :
    W p l e room_1 s m #[Value.ref b] below meth c H locs cells slots (lw_Z below #[Value.ref b] s) (F0 m 1370 ls []) := by
  have hA : ∀ q : Nat, s.heap.size ≤ q → (fun q : Nat => s.heap.size ≤ q) q := fun _ h => h
  have hbA : ¬ (fun q : Nat => s.heap.size ≤ q) b := Nat.not_le.mpr hbl
  have hcl : cells + 0 ≤ room_1.cells := by show cells + 0 ≤ 600000; omega
  have hsl : slots + 0 ≤ room_1.slots := by show slots + 0 ≤ 7302250; omega
  obtain ⟨u, v, hu, hv, he, hR⟩ := hop s9 s10 (xs (i + 1)) (xs (i + 2)) hR
  refine lv_aload_n hx hb dL_law_1370 rfl (lv_at hl 2 rfl) ?_
  refine lv_aload_n hx hb dL_law_1371 rfl (lv_at hl 1 rfl) ?_
  refine lv_iload_n hx hb dL_law_1372 rfl (lv_at hl 0 rfl) ?_
  refine lv_iconst (v := 1) hx hb dL_law_1373 (by decide) ?_
  refine lv_iadd hx hb dL_law_1374 ?_
  refine nmI (nI_p i 1 (by decide)) ?_
  refine va_sld hx hb hX hbl hbA hS (vp_in_nI (show i + 1 < L by omega) (by omega)) dL_law_1375 ?_
  refine nmI (z := xs (i + 1)) (by rw [nI_clamp (by omega)]) ?_
  refine lv_aload_n hx hb dL_law_1376 rfl (lv_at hl 1 rfl) ?_
  refine lv_iload_n hx hb dL_law_1377 rfl (lv_at hl 0 rfl) ?_
  refine lv_iconst (v := 2) hx hb dL_law_1378 (by decide) ?_
  refine lv_iadd hx hb dL_law_1379 ?_
  refine nmI (nI_p i 2 (by decide)) ?_
  refine va_sld hx hb hX hbl hbA hS (vp_in_nI (show i + 2 < L by omega) (by omega)) dL_law_1380 ?_
  refine nmI (z := xs (i + 2)) (by rw [nI_clamp (by omega)]) ?_
  refine cL hP hD hS hA hE (fun hPc hDc hSc => rV (As := [.int (xs (i + 1)), .int (xs (i + 2))]) (rest := []) hx hb hml hown hts hK (c_X9_look l g a0 (p6_raws (p9_now s9)) (p6_kinds (p9_now s9)) (p6_figures (p9_now s9)) (p6_heavies (p9_now s9)) (p6_places (p9_now s9)) (p6_papers (p9_now s9)) (p6_lowers (p9_now s9)) (p6_uppers (p9_now s9)) (p6_rules (p9_now s9)) (p6_bounds (p9_now s9)) (p6_boundCount (p9_now s9)) (p6_tieWay (p9_now s9)) (p6_reached (p9_now s9)) (p6_raws (p9_kept s9)) (p6_kinds (p9_kept s9)) (p6_figures (p9_kept s9)) (p6_heavies (p9_kept s9)) (p6_places (p9_kept s9)) (p6_papers (p9_kept s9)) (p6_lowers (p9_kept s9)) (p6_uppers (p9_kept s9)) (p6_rules (p9_kept s9)) (p6_bounds (p9_kept s9)) (p6_boundCount (p9_kept s9)) (p6_tieWay (p9_kept s9)) (p6_reached (p9_kept s9)) (p6_raws (p9_spare s9)) (p6_kinds (p9_spare s9)) (p6_figures (p9_spare s9)) (p6_heavies (p9_spare s9)) (p6_places (p9_spare s9)) (p6_papers (p9_spare s9)) (p6_lowers (p9_spare s9)) (p6_uppers (p9_spare s9)) (p6_rules (p9_spare s9)) (p6_bounds (p9_spare s9)) (p6_boundCount (p9_spare s9)) (p6_tieWay (p9_spare s9)) (p6_reached (p9_spare s9)) (p9_isKept s9) (p3_signs (p9_letters s9)) (p3_numbers (p9_letters s9)) (p3_size (p9_letters s9)) (p3_at (p9_letters s9)) (p3_word (p9_letters s9)) (p9_told s9) (p9_toldCount s9) (p7_cells (p9_shelves s9)) (p7_sizes (p9_shelves s9)) (p7_made (p9_shelves s9)) (p9_refusals s9) (p5_overs (p9_order s9)) (p5_unders (p9_order s9)) (p5_marks (p9_order s9)) (p5_wrongs (p9_order s9)) (p5_papers (p9_order s9)) (p8_marks (p4_values (p9_standing s9))) (p8_weights (p4_values (p9_standing s9))) (p8_places (p4_values (p9_standing s9))) (p8_aboves (p4_values (p9_standing s9))) (p8_belows (p4_values (p9_standing s9))) (p1_above (p8_reduced (p4_values (p9_standing s9)))) (p1_below (p8_reduced (p4_values (p9_standing s9)))) (p8_papers (p4_values (p9_standing s9))) (p4_blocks (p9_standing s9)) (p4_tops (p9_standing s9)) (p4_bottoms (p9_standing s9)) (p4_blocksNow (p9_standing s9)) (p4_mergesDone (p9_standing s9)) (p4_loss (p9_standing s9)) (p8_marks (p0_values (p9_byRules s9))) (p8_weights (p0_values (p9_byRules s9))) (p8_places (p0_values (p9_byRules s9))) (p8_aboves (p0_values (p9_byRules s9))) (p8_belows (p0_values (p9_byRules s9))) (p1_above (p8_reduced (p0_values (p9_byRules s9)))) (p1_below (p8_reduced (p0_values (p9_byRules s9)))) (p8_papers (p0_values (p9_byRules s9))) (p5_overs (p0_order (p9_byRules s9))) (p5_unders (p0_order (p9_byRules s9))) (p5_marks (p0_order (p9_byRules s9))) (p5_wrongs (p0_order (p9_byRules s9))) (p5_papers (p0_order (p9_byRules s9))) (p0_sums (p9_byRules s9)) (p0_weighs (p9_byRules s9)) (p0_downs (p9_byRules s9)) (p1_above (p9_fraction s9)) (p1_below (p9_fraction s9)) (pSB_a (p9_said s9)) (pSB_m (p9_said s9)) (pSB_f (p9_said s9)) (pSB_l (p9_said s9)) (pSB_n (p9_said s9)) (xs (i + 1)) (xs (i + 2)) (by rw [hu]; exact Option.some_ne_none _)) svV_X9_look kw1212 rfl rfl hPc hDc hSc rfl rfl hl.1 (Nat.le_of_ble_eq_true rfl) dL_law_1381 ⟨Nat.le_of_ble_eq_true rfl, Nat.le_of_ble_eq_true rfl, rfl, rfl, hcl, hsl⟩) [(0, 132)] rfl rfl rfl (fun _ => rfl) (fun w H locs ew hP hD hS => ?_)
  obtain rfl := Option.some.inj (hu.symm.trans ew)
  have hP : va_P g.1 vwCl (w9s a0 g (st_X9_look s9 u) ++ w10s a1 g s10) H := hP
  have hD : va_D (fun q : Nat => s.heap.size ≤ q) (w9s a0 g (st_X9_look s9 u) ++ w10s a1 g s10) := hD
  refine lv_aload_n hx hb dL_law_1384 rfl (lv_at hl 3 rfl) ?_
  refine lv_aload_n hx hb dL_law_1385 rfl (lv_at hl 1 rfl) ?_
  refine lv_iload_n hx hb dL_law_1386 rfl (lv_at hl 0 rfl) ?_
  refine lv_iconst (v := 1) hx hb dL_law_1387 (by decide) ?_
  refine lv_iadd hx hb dL_law_1388 ?_
  refine nmI (nI_p i 1 (by decide)) ?_
  refine va_sld hx hb hX hbl hbA hS (vp_in_nI (show i + 1 < L by omega) (by omega)) dL_law_1389 ?_
  refine nmI (z := xs (i + 1)) (by rw [nI_clamp (by omega)]) ?_
  refine lv_aload_n hx hb dL_law_1390 rfl (lv_at hl 1 rfl) ?_
  refine lv_iload_n hx hb dL_law_1391 rfl (lv_at hl 0 rfl) ?_
  refine lv_iconst (v := 2) hx hb dL_law_1392 (by decide) ?_
  refine lv_iadd hx hb dL_law_1393 ?_
  refine nmI (nI_p i 2 (by decide)) ?_
  refine va_sld hx hb hX hbl hbA hS (vp_in_nI (show i + 2 < L by omega) (by omega)) dL_law_1394 ?_
  refine nmI (z := xs (i + 2)) (by rw [nI_clamp (by omega)]) ?_
  refine cL hP hD hS hA hE (fun hPc hDc hSc => rV (As := [.int (xs (i + 1)), .int (xs (i + 2))]) (rest := [.long u.1]) hx hb hml hown hts hK (c_X10_look l g a1 (p10_papers s10) (p10_raw s10) (p10_kind s10) (p10_figure s10) (p10_heavy s10) (p10_place s10) (p10_rules s10) (p10_lower s10) (p10_upper s10) (p10_limits s10) (p10_limit s10) (p10_ties s10) (p10_letter s10) (p10_letters s10) (p10_told s10) (p10_tolds s10) (p10_places s10) (p10_cell s10) (p10_refusals s10) (p10_imaged s10) (p10_hasImage s10) (p10_before s10) (p10_up s10) (p10_down s10) (p10_beneath s10) (p10_numberUp s10) (p10_numberDown s10) (p10_block s10) (p10_blocks s10) (p10_merged s10) (p10_valueUp s10) (p10_valueDown s10) (p10_said s10) (p10_saids s10) (p10_at s10) (p10_number s10) (xs (i + 1)) (xs (i + 2)) (by rw [hv]; exact Option.some_ne_none _)) svV_X10_look kw1694 rfl rfl hPc hDc hSc rfl rfl hl.1 (Nat.le_of_ble_eq_true rfl) dL_law_1395 ⟨Nat.le_of_ble_eq_true rfl, Nat.le_of_ble_eq_true rfl, rfl, rfl, hcl, hsl⟩) [(132, 22)] rfl rfl rfl (fun _ => rfl) (fun w H locs ew hP hD hS => ?_)
  obtain rfl := Option.some.inj (hv.symm.trans ew)
  have hP : va_P g.1 vwCl (w9s a0 g (st_X9_look s9 u) ++ w10s a1 g (st_X10_look s10 v)) H := hP
  have hD : va_D (fun q : Nat => s.heap.size ≤ q) (w9s a0 g (st_X9_look s9 u) ++ w10s a1 g (st_X10_look s10 v)) := hD
  refine lc_eq (tgt := 1529) hx hb dL_law_1398 dL_law_1399 (by decide) (fun _ => ?_) (fun c => absurd he c)
  refine W.widen (k := cells + 24) (n := slots + 7200) (by omega) (by omega) ?_
  exact kk (st_X9_look s9 u) (st_X10_look s10 v) _ _ hR hP hD hS
/-- lays -/
abbrev OP_lays (Rel : T9 → T10 → Prop) : Prop := ∀ (s9 : T9) (s10 : T10) (p1 p2 p3 : Int32), Rel s9 s10 → ∃ u v, m_X9_lays s9 p1 p2 p3 = some u ∧ m_X10_lays s10 p1 p2 p3 = some v ∧ u.1 = v.1 ∧ Rel (st_X9_lays s9 u) (st_X10_lays s10 v)
set_option maxHeartbeats 4000000 in
set_option maxRecDepth 100000 in
theorem law_lays {p : Program} {e : Env} {s : State} {m : MethodId} {below : List Frame} {meth : Method} {c : Code} (l : Launch) (g : GG) (Rel : T9 → T10 → Prop) (hop : OP_lays Rel) {b L : Nat} {xs : Nat → Int32} (hL : L ≤ 2560) (hx : p.tables.exec = Jvm.exec) (hb : c.code = code) (hml : c.maxLocals = 4) (hown : s.vm.findClass RL = some m.cls) (hts : ∀ w ∈ G, w.before #[Value.ref b] s = true) (hX : va_X b L xs s s.heap) (hbl : b < s.heap.size) (hK : NK g s) (hE : SK g (fun q : Nat => s.heap.size ≤ q) s s.heap) (a0 a1 : Nat → Nat) (i : Nat) (hi : i + 5 ≤ L) (s9 : T9) (s10 : T10) (hR : Rel s9 s10) {H : Heap} {locs : List Loc} {ls : Array Slot} {cells slots : Nat} (hcl0 : cells + 24 ≤ 600000) (hsl0 : slots + 7200 ≤ 7302250) (hP : va_P g.1 vwCl (w9s a0 g s9 ++ w10s a1 g s10) H) (hD : va_D (fun q : Nat => s.heap.size ≤ q) (w9s a0 g s9 ++ w10s a1 g s10)) (hS : va_S (fun q : Nat => s.heap.size ≤ q) s.heap H locs) (hl : lv_has ls 4 [(3, .int (nI i)), (0, .ref b), (1, .ref (a0 0)), (2, .ref (a1 0))])
    (kk : ∀ (s9 : T9) (s10 : T10) (H : Heap) (locs : List Loc), Rel s9 s10 → va_P g.1 vwCl (w9s a0 g s9 ++ w10s a1 g s10) H → va_D (fun q : Nat => s.heap.size ≤ q) (w9s a0 g s9 ++ w10s a1 g s10) → va_S (fun q : Nat => s.heap.size ≤ q) s.heap H locs → W p l e room_1 s m #[Value.ref b] below meth c H locs (cells + 24) (slots + 7200) (lw_Z below #[Value.ref b] s) (F0 m 1529 ls [])) :
    W p l e room_1 s m #[Value.ref b] below meth c H locs cells slots (lw_Z below #[Value.ref b] s) (F0 m 1404 ls []) := by
  have hA : ∀ q : Nat, s.heap.size ≤ q → (fun q : Nat => s.heap.size ≤ q) q := fun _ h => h
  have hbA : ¬ (fun q : Nat => s.heap.size ≤ q) b := Nat.not_le.mpr hbl
  have hcl : cells + 0 ≤ room_1.cells := by show cells + 0 ≤ 600000; omega
  have hsl : slots + 0 ≤ room_1.slots := by show slots + 0 ≤ 7302250; omega
  obtain ⟨u, v, hu, hv, he, hR⟩ := hop s9 s10 (xs (i + 1)) (xs (i + 2)) (xs (i + 3)) hR
  refine lv_aload_n hx hb dL_law_1404 rfl (lv_at hl 2 rfl) ?_
  refine lv_aload_n hx hb dL_law_1405 rfl (lv_at hl 1 rfl) ?_
  refine lv_iload_n hx hb dL_law_1406 rfl (lv_at hl 0 rfl) ?_
  refine lv_iconst (v := 1) hx hb dL_law_1407 (by decide) ?_
  refine lv_iadd hx hb dL_law_1408 ?_
  refine nmI (nI_p i 1 (by decide)) ?_
  refine va_sld hx hb hX hbl hbA hS (vp_in_nI (show i + 1 < L by omega) (by omega)) dL_law_1409 ?_
  refine nmI (z := xs (i + 1)) (by rw [nI_clamp (by omega)]) ?_
  refine lv_aload_n hx hb dL_law_1410 rfl (lv_at hl 1 rfl) ?_
  refine lv_iload_n hx hb dL_law_1411 rfl (lv_at hl 0 rfl) ?_
  refine lv_iconst (v := 2) hx hb dL_law_1412 (by decide) ?_
  refine lv_iadd hx hb dL_law_1413 ?_
  refine nmI (nI_p i 2 (by decide)) ?_
  refine va_sld hx hb hX hbl hbA hS (vp_in_nI (show i + 2 < L by omega) (by omega)) dL_law_1414 ?_
  refine nmI (z := xs (i + 2)) (by rw [nI_clamp (by omega)]) ?_
  refine lv_aload_n hx hb dL_law_1415 rfl (lv_at hl 1 rfl) ?_
  refine lv_iload_n hx hb dL_law_1416 rfl (lv_at hl 0 rfl) ?_
  refine lv_iconst (v := 3) hx hb dL_law_1417 (by decide) ?_
  refine lv_iadd hx hb dL_law_1418 ?_
  refine nmI (nI_p i 3 (by decide)) ?_
  refine va_sld hx hb hX hbl hbA hS (vp_in_nI (show i + 3 < L by omega) (by omega)) dL_law_1419 ?_
  refine nmI (z := xs (i + 3)) (by rw [nI_clamp (by omega)]) ?_
  refine cI hP hD hS hA hE (fun hPc hDc hSc => rV (As := [.int (xs (i + 1)), .int (xs (i + 2)), .int (xs (i + 3))]) (rest := []) hx hb hml hown hts hK (c_X9_lays l g a0 (p6_raws (p9_now s9)) (p6_kinds (p9_now s9)) (p6_figures (p9_now s9)) (p6_heavies (p9_now s9)) (p6_places (p9_now s9)) (p6_papers (p9_now s9)) (p6_lowers (p9_now s9)) (p6_uppers (p9_now s9)) (p6_rules (p9_now s9)) (p6_bounds (p9_now s9)) (p6_boundCount (p9_now s9)) (p6_tieWay (p9_now s9)) (p6_reached (p9_now s9)) (p6_raws (p9_kept s9)) (p6_kinds (p9_kept s9)) (p6_figures (p9_kept s9)) (p6_heavies (p9_kept s9)) (p6_places (p9_kept s9)) (p6_papers (p9_kept s9)) (p6_lowers (p9_kept s9)) (p6_uppers (p9_kept s9)) (p6_rules (p9_kept s9)) (p6_bounds (p9_kept s9)) (p6_boundCount (p9_kept s9)) (p6_tieWay (p9_kept s9)) (p6_reached (p9_kept s9)) (p6_raws (p9_spare s9)) (p6_kinds (p9_spare s9)) (p6_figures (p9_spare s9)) (p6_heavies (p9_spare s9)) (p6_places (p9_spare s9)) (p6_papers (p9_spare s9)) (p6_lowers (p9_spare s9)) (p6_uppers (p9_spare s9)) (p6_rules (p9_spare s9)) (p6_bounds (p9_spare s9)) (p6_boundCount (p9_spare s9)) (p6_tieWay (p9_spare s9)) (p6_reached (p9_spare s9)) (p9_isKept s9) (p3_signs (p9_letters s9)) (p3_numbers (p9_letters s9)) (p3_size (p9_letters s9)) (p3_at (p9_letters s9)) (p3_word (p9_letters s9)) (p9_told s9) (p9_toldCount s9) (p7_cells (p9_shelves s9)) (p7_sizes (p9_shelves s9)) (p7_made (p9_shelves s9)) (p9_refusals s9) (p5_overs (p9_order s9)) (p5_unders (p9_order s9)) (p5_marks (p9_order s9)) (p5_wrongs (p9_order s9)) (p5_papers (p9_order s9)) (p8_marks (p4_values (p9_standing s9))) (p8_weights (p4_values (p9_standing s9))) (p8_places (p4_values (p9_standing s9))) (p8_aboves (p4_values (p9_standing s9))) (p8_belows (p4_values (p9_standing s9))) (p1_above (p8_reduced (p4_values (p9_standing s9)))) (p1_below (p8_reduced (p4_values (p9_standing s9)))) (p8_papers (p4_values (p9_standing s9))) (p4_blocks (p9_standing s9)) (p4_tops (p9_standing s9)) (p4_bottoms (p9_standing s9)) (p4_blocksNow (p9_standing s9)) (p4_mergesDone (p9_standing s9)) (p4_loss (p9_standing s9)) (p8_marks (p0_values (p9_byRules s9))) (p8_weights (p0_values (p9_byRules s9))) (p8_places (p0_values (p9_byRules s9))) (p8_aboves (p0_values (p9_byRules s9))) (p8_belows (p0_values (p9_byRules s9))) (p1_above (p8_reduced (p0_values (p9_byRules s9)))) (p1_below (p8_reduced (p0_values (p9_byRules s9)))) (p8_papers (p0_values (p9_byRules s9))) (p5_overs (p0_order (p9_byRules s9))) (p5_unders (p0_order (p9_byRules s9))) (p5_marks (p0_order (p9_byRules s9))) (p5_wrongs (p0_order (p9_byRules s9))) (p5_papers (p0_order (p9_byRules s9))) (p0_sums (p9_byRules s9)) (p0_weighs (p9_byRules s9)) (p0_downs (p9_byRules s9)) (p1_above (p9_fraction s9)) (p1_below (p9_fraction s9)) (pSB_a (p9_said s9)) (pSB_m (p9_said s9)) (pSB_f (p9_said s9)) (pSB_l (p9_said s9)) (pSB_n (p9_said s9)) (xs (i + 1)) (xs (i + 2)) (xs (i + 3)) (by rw [hu]; exact Option.some_ne_none _)) svV_X9_lays kw1222 rfl rfl hPc hDc hSc rfl rfl hl.1 (Nat.le_of_ble_eq_true rfl) dL_law_1420 ⟨Nat.le_of_ble_eq_true rfl, Nat.le_of_ble_eq_true rfl, rfl, rfl, hcl, hsl⟩) [(0, 132)] rfl rfl rfl (fun _ => rfl) (fun w H locs ew nw hP hD hS => ?_)
  obtain rfl := Option.some.inj (hu.symm.trans ew)
  have hP : va_P g.1 vwCl (w9s a0 g (st_X9_lays s9 u) ++ w10s a1 g s10) H := hP
  have hD : va_D (fun q : Nat => s.heap.size ≤ q) (w9s a0 g (st_X9_lays s9 u) ++ w10s a1 g s10) := hD
  refine lv_aload_n hx hb dL_law_1423 rfl (lv_at hl 3 rfl) ?_
  refine lv_aload_n hx hb dL_law_1424 rfl (lv_at hl 1 rfl) ?_
  refine lv_iload_n hx hb dL_law_1425 rfl (lv_at hl 0 rfl) ?_
  refine lv_iconst (v := 1) hx hb dL_law_1426 (by decide) ?_
  refine lv_iadd hx hb dL_law_1427 ?_
  refine nmI (nI_p i 1 (by decide)) ?_
  refine va_sld hx hb hX hbl hbA hS (vp_in_nI (show i + 1 < L by omega) (by omega)) dL_law_1428 ?_
  refine nmI (z := xs (i + 1)) (by rw [nI_clamp (by omega)]) ?_
  refine lv_aload_n hx hb dL_law_1429 rfl (lv_at hl 1 rfl) ?_
  refine lv_iload_n hx hb dL_law_1430 rfl (lv_at hl 0 rfl) ?_
  refine lv_iconst (v := 2) hx hb dL_law_1431 (by decide) ?_
  refine lv_iadd hx hb dL_law_1432 ?_
  refine nmI (nI_p i 2 (by decide)) ?_
  refine va_sld hx hb hX hbl hbA hS (vp_in_nI (show i + 2 < L by omega) (by omega)) dL_law_1433 ?_
  refine nmI (z := xs (i + 2)) (by rw [nI_clamp (by omega)]) ?_
  refine lv_aload_n hx hb dL_law_1434 rfl (lv_at hl 1 rfl) ?_
  refine lv_iload_n hx hb dL_law_1435 rfl (lv_at hl 0 rfl) ?_
  refine lv_iconst (v := 3) hx hb dL_law_1436 (by decide) ?_
  refine lv_iadd hx hb dL_law_1437 ?_
  refine nmI (nI_p i 3 (by decide)) ?_
  refine va_sld hx hb hX hbl hbA hS (vp_in_nI (show i + 3 < L by omega) (by omega)) dL_law_1438 ?_
  refine nmI (z := xs (i + 3)) (by rw [nI_clamp (by omega)]) ?_
  refine cI hP hD hS hA hE (fun hPc hDc hSc => rV (As := [.int (xs (i + 1)), .int (xs (i + 2)), .int (xs (i + 3))]) (rest := [.int u.1]) hx hb hml hown hts hK (c_X10_lays l g a1 (p10_papers s10) (p10_raw s10) (p10_kind s10) (p10_figure s10) (p10_heavy s10) (p10_place s10) (p10_rules s10) (p10_lower s10) (p10_upper s10) (p10_limits s10) (p10_limit s10) (p10_ties s10) (p10_letter s10) (p10_letters s10) (p10_told s10) (p10_tolds s10) (p10_places s10) (p10_cell s10) (p10_refusals s10) (p10_imaged s10) (p10_hasImage s10) (p10_before s10) (p10_up s10) (p10_down s10) (p10_beneath s10) (p10_numberUp s10) (p10_numberDown s10) (p10_block s10) (p10_blocks s10) (p10_merged s10) (p10_valueUp s10) (p10_valueDown s10) (p10_said s10) (p10_saids s10) (p10_at s10) (p10_number s10) (xs (i + 1)) (xs (i + 2)) (xs (i + 3)) (by rw [hv]; exact Option.some_ne_none _)) svV_X10_lays kw1700 rfl rfl hPc hDc hSc rfl rfl hl.1 (Nat.le_of_ble_eq_true rfl) dL_law_1439 ⟨Nat.le_of_ble_eq_true rfl, Nat.le_of_ble_eq_true rfl, rfl, rfl, hcl, hsl⟩) [(132, 22)] rfl rfl rfl (fun _ => rfl) (fun w H locs ew nw hP hD hS => ?_)
  obtain rfl := Option.some.inj (hv.symm.trans ew)
  have hP : va_P g.1 vwCl (w9s a0 g (st_X9_lays s9 u) ++ w10s a1 g (st_X10_lays s10 v)) H := hP
  have hD : va_D (fun q : Nat => s.heap.size ≤ q) (w9s a0 g (st_X9_lays s9 u) ++ w10s a1 g (st_X10_lays s10 v)) := hD
  refine lv_icmp_eq (tgt := 1529) hx hb dL_law_1442 (by decide) (fun _ => ?_) (fun c => absurd he c)
  refine W.widen (k := cells + 24) (n := slots + 7200) (by omega) (by omega) ?_
  exact kk (st_X9_lays s9 u) (st_X10_lays s10 v) _ _ hR hP hD hS
/-- judge -/
abbrev OP_judge (Rel : T9 → T10 → Prop) : Prop := ∀ (s9 : T9) (s10 : T10) (p1 p2 : Int32), Rel s9 s10 → ∃ u v, m_X9_judge s9 p1 p2 = some u ∧ m_X10_judge s10 p1 p2 = some v ∧ u.1 = v.1 ∧ Rel (st_X9_judge s9 u) (st_X10_judge s10 v)
set_option maxHeartbeats 4000000 in
set_option maxRecDepth 100000 in
theorem law_judge {p : Program} {e : Env} {s : State} {m : MethodId} {below : List Frame} {meth : Method} {c : Code} (l : Launch) (g : GG) (Rel : T9 → T10 → Prop) (hop : OP_judge Rel) {b L : Nat} {xs : Nat → Int32} (hL : L ≤ 2560) (hx : p.tables.exec = Jvm.exec) (hb : c.code = code) (hml : c.maxLocals = 4) (hown : s.vm.findClass RL = some m.cls) (hts : ∀ w ∈ G, w.before #[Value.ref b] s = true) (hX : va_X b L xs s s.heap) (hbl : b < s.heap.size) (hK : NK g s) (hE : SK g (fun q : Nat => s.heap.size ≤ q) s s.heap) (a0 a1 : Nat → Nat) (i : Nat) (hi : i + 5 ≤ L) (s9 : T9) (s10 : T10) (hR : Rel s9 s10) {H : Heap} {locs : List Loc} {ls : Array Slot} {cells slots : Nat} (hcl0 : cells + 24 ≤ 600000) (hsl0 : slots + 7200 ≤ 7302250) (hP : va_P g.1 vwCl (w9s a0 g s9 ++ w10s a1 g s10) H) (hD : va_D (fun q : Nat => s.heap.size ≤ q) (w9s a0 g s9 ++ w10s a1 g s10)) (hS : va_S (fun q : Nat => s.heap.size ≤ q) s.heap H locs) (hl : lv_has ls 4 [(3, .int (nI i)), (0, .ref b), (1, .ref (a0 0)), (2, .ref (a1 0))])
    (kk : ∀ (s9 : T9) (s10 : T10) (H : Heap) (locs : List Loc), Rel s9 s10 → va_P g.1 vwCl (w9s a0 g s9 ++ w10s a1 g s10) H → va_D (fun q : Nat => s.heap.size ≤ q) (w9s a0 g s9 ++ w10s a1 g s10) → va_S (fun q : Nat => s.heap.size ≤ q) s.heap H locs → W p l e room_1 s m #[Value.ref b] below meth c H locs (cells + 24) (slots + 7200) (lw_Z below #[Value.ref b] s) (F0 m 1529 ls [])) :
    W p l e room_1 s m #[Value.ref b] below meth c H locs cells slots (lw_Z below #[Value.ref b] s) (F0 m 1447 ls []) := by
  have hA : ∀ q : Nat, s.heap.size ≤ q → (fun q : Nat => s.heap.size ≤ q) q := fun _ h => h
  have hbA : ¬ (fun q : Nat => s.heap.size ≤ q) b := Nat.not_le.mpr hbl
  have hcl : cells + 0 ≤ room_1.cells := by show cells + 0 ≤ 600000; omega
  have hsl : slots + 0 ≤ room_1.slots := by show slots + 0 ≤ 7302250; omega
  obtain ⟨u, v, hu, hv, he, hR⟩ := hop s9 s10 (xs (i + 1)) (xs (i + 2)) hR
  refine lv_aload_n hx hb dL_law_1447 rfl (lv_at hl 2 rfl) ?_
  refine lv_aload_n hx hb dL_law_1448 rfl (lv_at hl 1 rfl) ?_
  refine lv_iload_n hx hb dL_law_1449 rfl (lv_at hl 0 rfl) ?_
  refine lv_iconst (v := 1) hx hb dL_law_1450 (by decide) ?_
  refine lv_iadd hx hb dL_law_1451 ?_
  refine nmI (nI_p i 1 (by decide)) ?_
  refine va_sld hx hb hX hbl hbA hS (vp_in_nI (show i + 1 < L by omega) (by omega)) dL_law_1452 ?_
  refine nmI (z := xs (i + 1)) (by rw [nI_clamp (by omega)]) ?_
  refine lv_aload_n hx hb dL_law_1453 rfl (lv_at hl 1 rfl) ?_
  refine lv_iload_n hx hb dL_law_1454 rfl (lv_at hl 0 rfl) ?_
  refine lv_iconst (v := 2) hx hb dL_law_1455 (by decide) ?_
  refine lv_iadd hx hb dL_law_1456 ?_
  refine nmI (nI_p i 2 (by decide)) ?_
  refine va_sld hx hb hX hbl hbA hS (vp_in_nI (show i + 2 < L by omega) (by omega)) dL_law_1457 ?_
  refine nmI (z := xs (i + 2)) (by rw [nI_clamp (by omega)]) ?_
  refine cI hP hD hS hA hE (fun hPc hDc hSc => rV (As := [.int (xs (i + 1)), .int (xs (i + 2))]) (rest := []) hx hb hml hown hts hK (c_X9_judge l g a0 (p6_raws (p9_now s9)) (p6_kinds (p9_now s9)) (p6_figures (p9_now s9)) (p6_heavies (p9_now s9)) (p6_places (p9_now s9)) (p6_papers (p9_now s9)) (p6_lowers (p9_now s9)) (p6_uppers (p9_now s9)) (p6_rules (p9_now s9)) (p6_bounds (p9_now s9)) (p6_boundCount (p9_now s9)) (p6_tieWay (p9_now s9)) (p6_reached (p9_now s9)) (p6_raws (p9_kept s9)) (p6_kinds (p9_kept s9)) (p6_figures (p9_kept s9)) (p6_heavies (p9_kept s9)) (p6_places (p9_kept s9)) (p6_papers (p9_kept s9)) (p6_lowers (p9_kept s9)) (p6_uppers (p9_kept s9)) (p6_rules (p9_kept s9)) (p6_bounds (p9_kept s9)) (p6_boundCount (p9_kept s9)) (p6_tieWay (p9_kept s9)) (p6_reached (p9_kept s9)) (p6_raws (p9_spare s9)) (p6_kinds (p9_spare s9)) (p6_figures (p9_spare s9)) (p6_heavies (p9_spare s9)) (p6_places (p9_spare s9)) (p6_papers (p9_spare s9)) (p6_lowers (p9_spare s9)) (p6_uppers (p9_spare s9)) (p6_rules (p9_spare s9)) (p6_bounds (p9_spare s9)) (p6_boundCount (p9_spare s9)) (p6_tieWay (p9_spare s9)) (p6_reached (p9_spare s9)) (p9_isKept s9) (p3_signs (p9_letters s9)) (p3_numbers (p9_letters s9)) (p3_size (p9_letters s9)) (p3_at (p9_letters s9)) (p3_word (p9_letters s9)) (p9_told s9) (p9_toldCount s9) (p7_cells (p9_shelves s9)) (p7_sizes (p9_shelves s9)) (p7_made (p9_shelves s9)) (p9_refusals s9) (p5_overs (p9_order s9)) (p5_unders (p9_order s9)) (p5_marks (p9_order s9)) (p5_wrongs (p9_order s9)) (p5_papers (p9_order s9)) (p8_marks (p4_values (p9_standing s9))) (p8_weights (p4_values (p9_standing s9))) (p8_places (p4_values (p9_standing s9))) (p8_aboves (p4_values (p9_standing s9))) (p8_belows (p4_values (p9_standing s9))) (p1_above (p8_reduced (p4_values (p9_standing s9)))) (p1_below (p8_reduced (p4_values (p9_standing s9)))) (p8_papers (p4_values (p9_standing s9))) (p4_blocks (p9_standing s9)) (p4_tops (p9_standing s9)) (p4_bottoms (p9_standing s9)) (p4_blocksNow (p9_standing s9)) (p4_mergesDone (p9_standing s9)) (p4_loss (p9_standing s9)) (p8_marks (p0_values (p9_byRules s9))) (p8_weights (p0_values (p9_byRules s9))) (p8_places (p0_values (p9_byRules s9))) (p8_aboves (p0_values (p9_byRules s9))) (p8_belows (p0_values (p9_byRules s9))) (p1_above (p8_reduced (p0_values (p9_byRules s9)))) (p1_below (p8_reduced (p0_values (p9_byRules s9)))) (p8_papers (p0_values (p9_byRules s9))) (p5_overs (p0_order (p9_byRules s9))) (p5_unders (p0_order (p9_byRules s9))) (p5_marks (p0_order (p9_byRules s9))) (p5_wrongs (p0_order (p9_byRules s9))) (p5_papers (p0_order (p9_byRules s9))) (p0_sums (p9_byRules s9)) (p0_weighs (p9_byRules s9)) (p0_downs (p9_byRules s9)) (p1_above (p9_fraction s9)) (p1_below (p9_fraction s9)) (pSB_a (p9_said s9)) (pSB_m (p9_said s9)) (pSB_f (p9_said s9)) (pSB_l (p9_said s9)) (pSB_n (p9_said s9)) (xs (i + 1)) (xs (i + 2)) (by rw [hu]; exact Option.some_ne_none _)) svV_X9_judge kw1236 rfl rfl hPc hDc hSc rfl rfl hl.1 (Nat.le_of_ble_eq_true rfl) dL_law_1458 ⟨Nat.le_of_ble_eq_true rfl, Nat.le_of_ble_eq_true rfl, rfl, rfl, hcl, hsl⟩) [(0, 132)] rfl rfl rfl (fun _ => rfl) (fun w H locs ew nw hP hD hS => ?_)
  obtain rfl := Option.some.inj (hu.symm.trans ew)
  have hP : va_P g.1 vwCl (w9s a0 g (st_X9_judge s9 u) ++ w10s a1 g s10) H := hP
  have hD : va_D (fun q : Nat => s.heap.size ≤ q) (w9s a0 g (st_X9_judge s9 u) ++ w10s a1 g s10) := hD
  refine lv_aload_n hx hb dL_law_1461 rfl (lv_at hl 3 rfl) ?_
  refine lv_aload_n hx hb dL_law_1462 rfl (lv_at hl 1 rfl) ?_
  refine lv_iload_n hx hb dL_law_1463 rfl (lv_at hl 0 rfl) ?_
  refine lv_iconst (v := 1) hx hb dL_law_1464 (by decide) ?_
  refine lv_iadd hx hb dL_law_1465 ?_
  refine nmI (nI_p i 1 (by decide)) ?_
  refine va_sld hx hb hX hbl hbA hS (vp_in_nI (show i + 1 < L by omega) (by omega)) dL_law_1466 ?_
  refine nmI (z := xs (i + 1)) (by rw [nI_clamp (by omega)]) ?_
  refine lv_aload_n hx hb dL_law_1467 rfl (lv_at hl 1 rfl) ?_
  refine lv_iload_n hx hb dL_law_1468 rfl (lv_at hl 0 rfl) ?_
  refine lv_iconst (v := 2) hx hb dL_law_1469 (by decide) ?_
  refine lv_iadd hx hb dL_law_1470 ?_
  refine nmI (nI_p i 2 (by decide)) ?_
  refine va_sld hx hb hX hbl hbA hS (vp_in_nI (show i + 2 < L by omega) (by omega)) dL_law_1471 ?_
  refine nmI (z := xs (i + 2)) (by rw [nI_clamp (by omega)]) ?_
  refine cI hP hD hS hA hE (fun hPc hDc hSc => rV (As := [.int (xs (i + 1)), .int (xs (i + 2))]) (rest := [.int u.1]) hx hb hml hown hts hK (c_X10_judge l g a1 (p10_papers s10) (p10_raw s10) (p10_kind s10) (p10_figure s10) (p10_heavy s10) (p10_place s10) (p10_rules s10) (p10_lower s10) (p10_upper s10) (p10_limits s10) (p10_limit s10) (p10_ties s10) (p10_letter s10) (p10_letters s10) (p10_told s10) (p10_tolds s10) (p10_places s10) (p10_cell s10) (p10_refusals s10) (p10_imaged s10) (p10_hasImage s10) (p10_before s10) (p10_up s10) (p10_down s10) (p10_beneath s10) (p10_numberUp s10) (p10_numberDown s10) (p10_block s10) (p10_blocks s10) (p10_merged s10) (p10_valueUp s10) (p10_valueDown s10) (p10_said s10) (p10_saids s10) (p10_at s10) (p10_number s10) (xs (i + 1)) (xs (i + 2)) (by rw [hv]; exact Option.some_ne_none _)) svV_X10_judge kw1707 rfl rfl hPc hDc hSc rfl rfl hl.1 (Nat.le_of_ble_eq_true rfl) dL_law_1472 ⟨Nat.le_of_ble_eq_true rfl, Nat.le_of_ble_eq_true rfl, rfl, rfl, hcl, hsl⟩) [(132, 22)] rfl rfl rfl (fun _ => rfl) (fun w H locs ew nw hP hD hS => ?_)
  obtain rfl := Option.some.inj (hv.symm.trans ew)
  have hP : va_P g.1 vwCl (w9s a0 g (st_X9_judge s9 u) ++ w10s a1 g (st_X10_judge s10 v)) H := hP
  have hD : va_D (fun q : Nat => s.heap.size ≤ q) (w9s a0 g (st_X9_judge s9 u) ++ w10s a1 g (st_X10_judge s10 v)) := hD
  refine lv_icmp_eq (tgt := 1529) hx hb dL_law_1475 (by decide) (fun _ => ?_) (fun c => absurd he c)
  refine W.widen (k := cells + 24) (n := slots + 7200) (by omega) (by omega) ?_
  exact kk (st_X9_judge s9 u) (st_X10_judge s10 v) _ _ hR hP hD hS
/-- image -/
abbrev OP_image (Rel : T9 → T10 → Prop) : Prop := ∀ (s9 : T9) (s10 : T10), Rel s9 s10 → ∃ u v, m_X9_image s9 = some u ∧ m_X10_image s10 = some v ∧ u.1 = v.1 ∧ Rel (st_X9_image s9 u) (st_X10_image s10 v)
set_option maxHeartbeats 4000000 in
set_option maxRecDepth 100000 in
theorem law_image {p : Program} {e : Env} {s : State} {m : MethodId} {below : List Frame} {meth : Method} {c : Code} (l : Launch) (g : GG) (Rel : T9 → T10 → Prop) (hop : OP_image Rel) {b L : Nat} {xs : Nat → Int32} (hL : L ≤ 2560) (hx : p.tables.exec = Jvm.exec) (hb : c.code = code) (hml : c.maxLocals = 4) (hown : s.vm.findClass RL = some m.cls) (hts : ∀ w ∈ G, w.before #[Value.ref b] s = true) (hX : va_X b L xs s s.heap) (hbl : b < s.heap.size) (hK : NK g s) (hE : SK g (fun q : Nat => s.heap.size ≤ q) s s.heap) (a0 a1 : Nat → Nat) (i : Nat) (hi : i + 5 ≤ L) (s9 : T9) (s10 : T10) (hR : Rel s9 s10) {H : Heap} {locs : List Loc} {ls : Array Slot} {cells slots : Nat} (hcl0 : cells + 24 ≤ 600000) (hsl0 : slots + 7200 ≤ 7302250) (hP : va_P g.1 vwCl (w9s a0 g s9 ++ w10s a1 g s10) H) (hD : va_D (fun q : Nat => s.heap.size ≤ q) (w9s a0 g s9 ++ w10s a1 g s10)) (hS : va_S (fun q : Nat => s.heap.size ≤ q) s.heap H locs) (hl : lv_has ls 4 [(3, .int (nI i)), (0, .ref b), (1, .ref (a0 0)), (2, .ref (a1 0))])
    (kk : ∀ (s9 : T9) (s10 : T10) (H : Heap) (locs : List Loc), Rel s9 s10 → va_P g.1 vwCl (w9s a0 g s9 ++ w10s a1 g s10) H → va_D (fun q : Nat => s.heap.size ≤ q) (w9s a0 g s9 ++ w10s a1 g s10) → va_S (fun q : Nat => s.heap.size ≤ q) s.heap H locs → W p l e room_1 s m #[Value.ref b] below meth c H locs (cells + 24) (slots + 7200) (lw_Z below #[Value.ref b] s) (F0 m 1529 ls [])) :
    W p l e room_1 s m #[Value.ref b] below meth c H locs cells slots (lw_Z below #[Value.ref b] s) (F0 m 1480 ls []) := by
  have hA : ∀ q : Nat, s.heap.size ≤ q → (fun q : Nat => s.heap.size ≤ q) q := fun _ h => h
  have hbA : ¬ (fun q : Nat => s.heap.size ≤ q) b := Nat.not_le.mpr hbl
  have hcl : cells + 0 ≤ room_1.cells := by show cells + 0 ≤ 600000; omega
  have hsl : slots + 0 ≤ room_1.slots := by show slots + 0 ≤ 7302250; omega
  obtain ⟨u, v, hu, hv, he, hR⟩ := hop s9 s10 hR
  refine lv_aload_n hx hb dL_law_1480 rfl (lv_at hl 2 rfl) ?_
  refine cI hP hD hS hA hE (fun hPc hDc hSc => rV (As := []) (rest := []) hx hb hml hown hts hK (c_X9_image l g a0 (p6_raws (p9_now s9)) (p6_kinds (p9_now s9)) (p6_figures (p9_now s9)) (p6_heavies (p9_now s9)) (p6_places (p9_now s9)) (p6_papers (p9_now s9)) (p6_lowers (p9_now s9)) (p6_uppers (p9_now s9)) (p6_rules (p9_now s9)) (p6_bounds (p9_now s9)) (p6_boundCount (p9_now s9)) (p6_tieWay (p9_now s9)) (p6_reached (p9_now s9)) (p6_raws (p9_kept s9)) (p6_kinds (p9_kept s9)) (p6_figures (p9_kept s9)) (p6_heavies (p9_kept s9)) (p6_places (p9_kept s9)) (p6_papers (p9_kept s9)) (p6_lowers (p9_kept s9)) (p6_uppers (p9_kept s9)) (p6_rules (p9_kept s9)) (p6_bounds (p9_kept s9)) (p6_boundCount (p9_kept s9)) (p6_tieWay (p9_kept s9)) (p6_reached (p9_kept s9)) (p6_raws (p9_spare s9)) (p6_kinds (p9_spare s9)) (p6_figures (p9_spare s9)) (p6_heavies (p9_spare s9)) (p6_places (p9_spare s9)) (p6_papers (p9_spare s9)) (p6_lowers (p9_spare s9)) (p6_uppers (p9_spare s9)) (p6_rules (p9_spare s9)) (p6_bounds (p9_spare s9)) (p6_boundCount (p9_spare s9)) (p6_tieWay (p9_spare s9)) (p6_reached (p9_spare s9)) (p9_isKept s9) (p3_signs (p9_letters s9)) (p3_numbers (p9_letters s9)) (p3_size (p9_letters s9)) (p3_at (p9_letters s9)) (p3_word (p9_letters s9)) (p9_told s9) (p9_toldCount s9) (p7_cells (p9_shelves s9)) (p7_sizes (p9_shelves s9)) (p7_made (p9_shelves s9)) (p9_refusals s9) (p5_overs (p9_order s9)) (p5_unders (p9_order s9)) (p5_marks (p9_order s9)) (p5_wrongs (p9_order s9)) (p5_papers (p9_order s9)) (p8_marks (p4_values (p9_standing s9))) (p8_weights (p4_values (p9_standing s9))) (p8_places (p4_values (p9_standing s9))) (p8_aboves (p4_values (p9_standing s9))) (p8_belows (p4_values (p9_standing s9))) (p1_above (p8_reduced (p4_values (p9_standing s9)))) (p1_below (p8_reduced (p4_values (p9_standing s9)))) (p8_papers (p4_values (p9_standing s9))) (p4_blocks (p9_standing s9)) (p4_tops (p9_standing s9)) (p4_bottoms (p9_standing s9)) (p4_blocksNow (p9_standing s9)) (p4_mergesDone (p9_standing s9)) (p4_loss (p9_standing s9)) (p8_marks (p0_values (p9_byRules s9))) (p8_weights (p0_values (p9_byRules s9))) (p8_places (p0_values (p9_byRules s9))) (p8_aboves (p0_values (p9_byRules s9))) (p8_belows (p0_values (p9_byRules s9))) (p1_above (p8_reduced (p0_values (p9_byRules s9)))) (p1_below (p8_reduced (p0_values (p9_byRules s9)))) (p8_papers (p0_values (p9_byRules s9))) (p5_overs (p0_order (p9_byRules s9))) (p5_unders (p0_order (p9_byRules s9))) (p5_marks (p0_order (p9_byRules s9))) (p5_wrongs (p0_order (p9_byRules s9))) (p5_papers (p0_order (p9_byRules s9))) (p0_sums (p9_byRules s9)) (p0_weighs (p9_byRules s9)) (p0_downs (p9_byRules s9)) (p1_above (p9_fraction s9)) (p1_below (p9_fraction s9)) (pSB_a (p9_said s9)) (pSB_m (p9_said s9)) (pSB_f (p9_said s9)) (pSB_l (p9_said s9)) (pSB_n (p9_said s9)) (by rw [hu]; exact Option.some_ne_none _)) svV_X9_image kw1245 rfl rfl hPc hDc hSc rfl rfl hl.1 (Nat.le_of_ble_eq_true rfl) dL_law_1481 ⟨Nat.le_of_ble_eq_true rfl, Nat.le_of_ble_eq_true rfl, rfl, rfl, hcl, hsl⟩) [(0, 132)] rfl rfl rfl (fun _ => rfl) (fun w H locs ew nw hP hD hS => ?_)
  obtain rfl := Option.some.inj (hu.symm.trans ew)
  have hP : va_P g.1 vwCl (w9s a0 g (st_X9_image s9 u) ++ w10s a1 g s10) H := hP
  have hD : va_D (fun q : Nat => s.heap.size ≤ q) (w9s a0 g (st_X9_image s9 u) ++ w10s a1 g s10) := hD
  refine lv_aload_n hx hb dL_law_1484 rfl (lv_at hl 3 rfl) ?_
  refine cI hP hD hS hA hE (fun hPc hDc hSc => rV (As := []) (rest := [.int u.1]) hx hb hml hown hts hK (c_X10_image l g a1 (p10_papers s10) (p10_raw s10) (p10_kind s10) (p10_figure s10) (p10_heavy s10) (p10_place s10) (p10_rules s10) (p10_lower s10) (p10_upper s10) (p10_limits s10) (p10_limit s10) (p10_ties s10) (p10_letter s10) (p10_letters s10) (p10_told s10) (p10_tolds s10) (p10_places s10) (p10_cell s10) (p10_refusals s10) (p10_imaged s10) (p10_hasImage s10) (p10_before s10) (p10_up s10) (p10_down s10) (p10_beneath s10) (p10_numberUp s10) (p10_numberDown s10) (p10_block s10) (p10_blocks s10) (p10_merged s10) (p10_valueUp s10) (p10_valueDown s10) (p10_said s10) (p10_saids s10) (p10_at s10) (p10_number s10) (by rw [hv]; exact Option.some_ne_none _)) svV_X10_image kw1757 rfl rfl hPc hDc hSc rfl rfl hl.1 (Nat.le_of_ble_eq_true rfl) dL_law_1485 ⟨Nat.le_of_ble_eq_true rfl, Nat.le_of_ble_eq_true rfl, rfl, rfl, hcl, hsl⟩) [(132, 22)] rfl rfl rfl (fun _ => rfl) (fun w H locs ew nw hP hD hS => ?_)
  obtain rfl := Option.some.inj (hv.symm.trans ew)
  have hP : va_P g.1 vwCl (w9s a0 g (st_X9_image s9 u) ++ w10s a1 g (st_X10_image s10 v)) H := hP
  have hD : va_D (fun q : Nat => s.heap.size ≤ q) (w9s a0 g (st_X9_image s9 u) ++ w10s a1 g (st_X10_image s10 v)) := hD
  refine lv_icmp_eq (tgt := 1529) hx hb dL_law_1488 (by decide) (fun _ => ?_) (fun c => absurd he c)
  refine W.widen (k := cells + 24) (n := slots + 7200) (by omega) (by omega) ?_
  exact kk (st_X9_image s9 u) (st_X10_image s10 v) _ _ hR hP hD hS
/-- on -/
abbrev OP_on (Rel : T9 → T10 → Prop) : Prop := ∀ (s9 : T9) (s10 : T10), Rel s9 s10 → ∃ u v, m_X9_on s9 = some u ∧ m_X10_on s10 = some v ∧ u.1 = v.1 ∧ Rel (st_X9_on s9 u) (st_X10_on s10 v)
set_option maxHeartbeats 4000000 in
set_option maxRecDepth 100000 in
theorem law_on {p : Program} {e : Env} {s : State} {m : MethodId} {below : List Frame} {meth : Method} {c : Code} (l : Launch) (g : GG) (Rel : T9 → T10 → Prop) (hop : OP_on Rel) {b L : Nat} {xs : Nat → Int32} (hL : L ≤ 2560) (hx : p.tables.exec = Jvm.exec) (hb : c.code = code) (hml : c.maxLocals = 4) (hown : s.vm.findClass RL = some m.cls) (hts : ∀ w ∈ G, w.before #[Value.ref b] s = true) (hX : va_X b L xs s s.heap) (hbl : b < s.heap.size) (hK : NK g s) (hE : SK g (fun q : Nat => s.heap.size ≤ q) s s.heap) (a0 a1 : Nat → Nat) (i : Nat) (hi : i + 5 ≤ L) (s9 : T9) (s10 : T10) (hR : Rel s9 s10) {H : Heap} {locs : List Loc} {ls : Array Slot} {cells slots : Nat} (hcl0 : cells + 24 ≤ 600000) (hsl0 : slots + 7200 ≤ 7302250) (hP : va_P g.1 vwCl (w9s a0 g s9 ++ w10s a1 g s10) H) (hD : va_D (fun q : Nat => s.heap.size ≤ q) (w9s a0 g s9 ++ w10s a1 g s10)) (hS : va_S (fun q : Nat => s.heap.size ≤ q) s.heap H locs) (hl : lv_has ls 4 [(3, .int (nI i)), (0, .ref b), (1, .ref (a0 0)), (2, .ref (a1 0))])
    (kk : ∀ (s9 : T9) (s10 : T10) (H : Heap) (locs : List Loc), Rel s9 s10 → va_P g.1 vwCl (w9s a0 g s9 ++ w10s a1 g s10) H → va_D (fun q : Nat => s.heap.size ≤ q) (w9s a0 g s9 ++ w10s a1 g s10) → va_S (fun q : Nat => s.heap.size ≤ q) s.heap H locs → W p l e room_1 s m #[Value.ref b] below meth c H locs (cells + 24) (slots + 7200) (lw_Z below #[Value.ref b] s) (F0 m 1529 ls [])) :
    W p l e room_1 s m #[Value.ref b] below meth c H locs cells slots (lw_Z below #[Value.ref b] s) (F0 m 1493 ls []) := by
  have hA : ∀ q : Nat, s.heap.size ≤ q → (fun q : Nat => s.heap.size ≤ q) q := fun _ h => h
  have hbA : ¬ (fun q : Nat => s.heap.size ≤ q) b := Nat.not_le.mpr hbl
  have hcl : cells + 0 ≤ room_1.cells := by show cells + 0 ≤ 600000; omega
  have hsl : slots + 0 ≤ room_1.slots := by show slots + 0 ≤ 7302250; omega
  obtain ⟨u, v, hu, hv, he, hR⟩ := hop s9 s10 hR
  refine lv_aload_n hx hb dL_law_1493 rfl (lv_at hl 2 rfl) ?_
  refine cI hP hD hS hA hE (fun hPc hDc hSc => rV (As := []) (rest := []) hx hb hml hown hts hK (c_X9_on l g a0 (p6_raws (p9_now s9)) (p6_kinds (p9_now s9)) (p6_figures (p9_now s9)) (p6_heavies (p9_now s9)) (p6_places (p9_now s9)) (p6_papers (p9_now s9)) (p6_lowers (p9_now s9)) (p6_uppers (p9_now s9)) (p6_rules (p9_now s9)) (p6_bounds (p9_now s9)) (p6_boundCount (p9_now s9)) (p6_tieWay (p9_now s9)) (p6_reached (p9_now s9)) (p6_raws (p9_kept s9)) (p6_kinds (p9_kept s9)) (p6_figures (p9_kept s9)) (p6_heavies (p9_kept s9)) (p6_places (p9_kept s9)) (p6_papers (p9_kept s9)) (p6_lowers (p9_kept s9)) (p6_uppers (p9_kept s9)) (p6_rules (p9_kept s9)) (p6_bounds (p9_kept s9)) (p6_boundCount (p9_kept s9)) (p6_tieWay (p9_kept s9)) (p6_reached (p9_kept s9)) (p6_raws (p9_spare s9)) (p6_kinds (p9_spare s9)) (p6_figures (p9_spare s9)) (p6_heavies (p9_spare s9)) (p6_places (p9_spare s9)) (p6_papers (p9_spare s9)) (p6_lowers (p9_spare s9)) (p6_uppers (p9_spare s9)) (p6_rules (p9_spare s9)) (p6_bounds (p9_spare s9)) (p6_boundCount (p9_spare s9)) (p6_tieWay (p9_spare s9)) (p6_reached (p9_spare s9)) (p9_isKept s9) (p3_signs (p9_letters s9)) (p3_numbers (p9_letters s9)) (p3_size (p9_letters s9)) (p3_at (p9_letters s9)) (p3_word (p9_letters s9)) (p9_told s9) (p9_toldCount s9) (p7_cells (p9_shelves s9)) (p7_sizes (p9_shelves s9)) (p7_made (p9_shelves s9)) (p9_refusals s9) (p5_overs (p9_order s9)) (p5_unders (p9_order s9)) (p5_marks (p9_order s9)) (p5_wrongs (p9_order s9)) (p5_papers (p9_order s9)) (p8_marks (p4_values (p9_standing s9))) (p8_weights (p4_values (p9_standing s9))) (p8_places (p4_values (p9_standing s9))) (p8_aboves (p4_values (p9_standing s9))) (p8_belows (p4_values (p9_standing s9))) (p1_above (p8_reduced (p4_values (p9_standing s9)))) (p1_below (p8_reduced (p4_values (p9_standing s9)))) (p8_papers (p4_values (p9_standing s9))) (p4_blocks (p9_standing s9)) (p4_tops (p9_standing s9)) (p4_bottoms (p9_standing s9)) (p4_blocksNow (p9_standing s9)) (p4_mergesDone (p9_standing s9)) (p4_loss (p9_standing s9)) (p8_marks (p0_values (p9_byRules s9))) (p8_weights (p0_values (p9_byRules s9))) (p8_places (p0_values (p9_byRules s9))) (p8_aboves (p0_values (p9_byRules s9))) (p8_belows (p0_values (p9_byRules s9))) (p1_above (p8_reduced (p0_values (p9_byRules s9)))) (p1_below (p8_reduced (p0_values (p9_byRules s9)))) (p8_papers (p0_values (p9_byRules s9))) (p5_overs (p0_order (p9_byRules s9))) (p5_unders (p0_order (p9_byRules s9))) (p5_marks (p0_order (p9_byRules s9))) (p5_wrongs (p0_order (p9_byRules s9))) (p5_papers (p0_order (p9_byRules s9))) (p0_sums (p9_byRules s9)) (p0_weighs (p9_byRules s9)) (p0_downs (p9_byRules s9)) (p1_above (p9_fraction s9)) (p1_below (p9_fraction s9)) (pSB_a (p9_said s9)) (pSB_m (p9_said s9)) (pSB_f (p9_said s9)) (pSB_l (p9_said s9)) (pSB_n (p9_said s9)) (by rw [hu]; exact Option.some_ne_none _)) svV_X9_on kw1249 rfl rfl hPc hDc hSc rfl rfl hl.1 (Nat.le_of_ble_eq_true rfl) dL_law_1494 ⟨Nat.le_of_ble_eq_true rfl, Nat.le_of_ble_eq_true rfl, rfl, rfl, hcl, hsl⟩) [(0, 132)] rfl rfl rfl (fun _ => rfl) (fun w H locs ew nw hP hD hS => ?_)
  obtain rfl := Option.some.inj (hu.symm.trans ew)
  have hP : va_P g.1 vwCl (w9s a0 g (st_X9_on s9 u) ++ w10s a1 g s10) H := hP
  have hD : va_D (fun q : Nat => s.heap.size ≤ q) (w9s a0 g (st_X9_on s9 u) ++ w10s a1 g s10) := hD
  refine lv_aload_n hx hb dL_law_1497 rfl (lv_at hl 3 rfl) ?_
  refine cI hP hD hS hA hE (fun hPc hDc hSc => rV (As := []) (rest := [.int u.1]) hx hb hml hown hts hK (c_X10_on l g a1 (p10_papers s10) (p10_raw s10) (p10_kind s10) (p10_figure s10) (p10_heavy s10) (p10_place s10) (p10_rules s10) (p10_lower s10) (p10_upper s10) (p10_limits s10) (p10_limit s10) (p10_ties s10) (p10_letter s10) (p10_letters s10) (p10_told s10) (p10_tolds s10) (p10_places s10) (p10_cell s10) (p10_refusals s10) (p10_imaged s10) (p10_hasImage s10) (p10_before s10) (p10_up s10) (p10_down s10) (p10_beneath s10) (p10_numberUp s10) (p10_numberDown s10) (p10_block s10) (p10_blocks s10) (p10_merged s10) (p10_valueUp s10) (p10_valueDown s10) (p10_said s10) (p10_saids s10) (p10_at s10) (p10_number s10) (by rw [hv]; exact Option.some_ne_none _)) svV_X10_on kw1761 rfl rfl hPc hDc hSc rfl rfl hl.1 (Nat.le_of_ble_eq_true rfl) dL_law_1498 ⟨Nat.le_of_ble_eq_true rfl, Nat.le_of_ble_eq_true rfl, rfl, rfl, hcl, hsl⟩) [(132, 22)] rfl rfl rfl (fun _ => rfl) (fun w H locs ew nw hP hD hS => ?_)
  obtain rfl := Option.some.inj (hv.symm.trans ew)
  have hP : va_P g.1 vwCl (w9s a0 g (st_X9_on s9 u) ++ w10s a1 g (st_X10_on s10 v)) H := hP
  have hD : va_D (fun q : Nat => s.heap.size ≤ q) (w9s a0 g (st_X9_on s9 u) ++ w10s a1 g (st_X10_on s10 v)) := hD
  refine lv_icmp_eq (tgt := 1529) hx hb dL_law_1501 (by decide) (fun _ => ?_) (fun c => absurd he c)
  refine W.widen (k := cells + 24) (n := slots + 7200) (by omega) (by omega) ?_
  exact kk (st_X9_on s9 u) (st_X10_on s10 v) _ _ hR hP hD hS
/-- count -/
abbrev OP_count (Rel : T9 → T10 → Prop) : Prop := ∀ (s9 : T9) (s10 : T10) (p1 : Int32), Rel s9 s10 → ∃ u v, m_X9_count s9 p1 = some u ∧ m_X10_count s10 p1 = some v ∧ u = v ∧ Rel s9 s10
set_option maxHeartbeats 4000000 in
set_option maxRecDepth 100000 in
theorem law_count {p : Program} {e : Env} {s : State} {m : MethodId} {below : List Frame} {meth : Method} {c : Code} (l : Launch) (g : GG) (Rel : T9 → T10 → Prop) (hop : OP_count Rel) {b L : Nat} {xs : Nat → Int32} (hL : L ≤ 2560) (hx : p.tables.exec = Jvm.exec) (hb : c.code = code) (hml : c.maxLocals = 4) (hown : s.vm.findClass RL = some m.cls) (hts : ∀ w ∈ G, w.before #[Value.ref b] s = true) (hX : va_X b L xs s s.heap) (hbl : b < s.heap.size) (hK : NK g s) (hE : SK g (fun q : Nat => s.heap.size ≤ q) s s.heap) (a0 a1 : Nat → Nat) (i : Nat) (hi : i + 5 ≤ L) (s9 : T9) (s10 : T10) (hR : Rel s9 s10) {H : Heap} {locs : List Loc} {ls : Array Slot} {cells slots : Nat} (hcl0 : cells + 24 ≤ 600000) (hsl0 : slots + 7200 ≤ 7302250) (hP : va_P g.1 vwCl (w9s a0 g s9 ++ w10s a1 g s10) H) (hD : va_D (fun q : Nat => s.heap.size ≤ q) (w9s a0 g s9 ++ w10s a1 g s10)) (hS : va_S (fun q : Nat => s.heap.size ≤ q) s.heap H locs) (hl : lv_has ls 4 [(3, .int (nI i)), (0, .ref b), (1, .ref (a0 0)), (2, .ref (a1 0))])
    (kk : ∀ (s9 : T9) (s10 : T10) (H : Heap) (locs : List Loc), Rel s9 s10 → va_P g.1 vwCl (w9s a0 g s9 ++ w10s a1 g s10) H → va_D (fun q : Nat => s.heap.size ≤ q) (w9s a0 g s9 ++ w10s a1 g s10) → va_S (fun q : Nat => s.heap.size ≤ q) s.heap H locs → W p l e room_1 s m #[Value.ref b] below meth c H locs (cells + 24) (slots + 7200) (lw_Z below #[Value.ref b] s) (F0 m 1529 ls [])) :
    W p l e room_1 s m #[Value.ref b] below meth c H locs cells slots (lw_Z below #[Value.ref b] s) (F0 m 1506 ls []) := by
  have hA : ∀ q : Nat, s.heap.size ≤ q → (fun q : Nat => s.heap.size ≤ q) q := fun _ h => h
  have hbA : ¬ (fun q : Nat => s.heap.size ≤ q) b := Nat.not_le.mpr hbl
  have hcl : cells + 0 ≤ room_1.cells := by show cells + 0 ≤ 600000; omega
  have hsl : slots + 0 ≤ room_1.slots := by show slots + 0 ≤ 7302250; omega
  obtain ⟨u, v, hu, hv, he, hR⟩ := hop s9 s10 (xs (i + 1)) hR
  refine lv_aload_n hx hb dL_law_1506 rfl (lv_at hl 2 rfl) ?_
  refine lv_aload_n hx hb dL_law_1507 rfl (lv_at hl 1 rfl) ?_
  refine lv_iload_n hx hb dL_law_1508 rfl (lv_at hl 0 rfl) ?_
  refine lv_iconst (v := 1) hx hb dL_law_1509 (by decide) ?_
  refine lv_iadd hx hb dL_law_1510 ?_
  refine nmI (nI_p i 1 (by decide)) ?_
  refine va_sld hx hb hX hbl hbA hS (vp_in_nI (show i + 1 < L by omega) (by omega)) dL_law_1511 ?_
  refine nmI (z := xs (i + 1)) (by rw [nI_clamp (by omega)]) ?_
  refine cIp hP hD hS hA hE (fun hPc hDc hSc => rV (As := [.int (xs (i + 1))]) (rest := []) hx hb hml hown hts hK (c_X9_count l g a0 (p6_raws (p9_now s9)) (p6_kinds (p9_now s9)) (p6_figures (p9_now s9)) (p6_heavies (p9_now s9)) (p6_places (p9_now s9)) (p6_papers (p9_now s9)) (p6_lowers (p9_now s9)) (p6_uppers (p9_now s9)) (p6_rules (p9_now s9)) (p6_bounds (p9_now s9)) (p6_boundCount (p9_now s9)) (p6_tieWay (p9_now s9)) (p6_reached (p9_now s9)) (p6_raws (p9_kept s9)) (p6_kinds (p9_kept s9)) (p6_figures (p9_kept s9)) (p6_heavies (p9_kept s9)) (p6_places (p9_kept s9)) (p6_papers (p9_kept s9)) (p6_lowers (p9_kept s9)) (p6_uppers (p9_kept s9)) (p6_rules (p9_kept s9)) (p6_bounds (p9_kept s9)) (p6_boundCount (p9_kept s9)) (p6_tieWay (p9_kept s9)) (p6_reached (p9_kept s9)) (p6_raws (p9_spare s9)) (p6_kinds (p9_spare s9)) (p6_figures (p9_spare s9)) (p6_heavies (p9_spare s9)) (p6_places (p9_spare s9)) (p6_papers (p9_spare s9)) (p6_lowers (p9_spare s9)) (p6_uppers (p9_spare s9)) (p6_rules (p9_spare s9)) (p6_bounds (p9_spare s9)) (p6_boundCount (p9_spare s9)) (p6_tieWay (p9_spare s9)) (p6_reached (p9_spare s9)) (p9_isKept s9) (p3_signs (p9_letters s9)) (p3_numbers (p9_letters s9)) (p3_size (p9_letters s9)) (p3_at (p9_letters s9)) (p3_word (p9_letters s9)) (p9_told s9) (p9_toldCount s9) (p7_cells (p9_shelves s9)) (p7_sizes (p9_shelves s9)) (p7_made (p9_shelves s9)) (p9_refusals s9) (p5_overs (p9_order s9)) (p5_unders (p9_order s9)) (p5_marks (p9_order s9)) (p5_wrongs (p9_order s9)) (p5_papers (p9_order s9)) (p8_marks (p4_values (p9_standing s9))) (p8_weights (p4_values (p9_standing s9))) (p8_places (p4_values (p9_standing s9))) (p8_aboves (p4_values (p9_standing s9))) (p8_belows (p4_values (p9_standing s9))) (p1_above (p8_reduced (p4_values (p9_standing s9)))) (p1_below (p8_reduced (p4_values (p9_standing s9)))) (p8_papers (p4_values (p9_standing s9))) (p4_blocks (p9_standing s9)) (p4_tops (p9_standing s9)) (p4_bottoms (p9_standing s9)) (p4_blocksNow (p9_standing s9)) (p4_mergesDone (p9_standing s9)) (p4_loss (p9_standing s9)) (p8_marks (p0_values (p9_byRules s9))) (p8_weights (p0_values (p9_byRules s9))) (p8_places (p0_values (p9_byRules s9))) (p8_aboves (p0_values (p9_byRules s9))) (p8_belows (p0_values (p9_byRules s9))) (p1_above (p8_reduced (p0_values (p9_byRules s9)))) (p1_below (p8_reduced (p0_values (p9_byRules s9)))) (p8_papers (p0_values (p9_byRules s9))) (p5_overs (p0_order (p9_byRules s9))) (p5_unders (p0_order (p9_byRules s9))) (p5_marks (p0_order (p9_byRules s9))) (p5_wrongs (p0_order (p9_byRules s9))) (p5_papers (p0_order (p9_byRules s9))) (p0_sums (p9_byRules s9)) (p0_weighs (p9_byRules s9)) (p0_downs (p9_byRules s9)) (p1_above (p9_fraction s9)) (p1_below (p9_fraction s9)) (pSB_a (p9_said s9)) (pSB_m (p9_said s9)) (pSB_f (p9_said s9)) (pSB_l (p9_said s9)) (pSB_n (p9_said s9)) (xs (i + 1)) (by rw [hu]; exact Option.some_ne_none _)) svV_X9_count kw1253 rfl rfl hPc hDc hSc rfl rfl hl.1 (Nat.le_of_ble_eq_true rfl) dL_law_1512 ⟨Nat.le_of_ble_eq_true rfl, Nat.le_of_ble_eq_true rfl, rfl, rfl, hcl, hsl⟩) [(0, 132)] rfl rfl rfl (fun w H locs ew nw hP hS => ?_)
  obtain rfl := Option.some.inj (hu.symm.trans ew)
  refine lv_aload_n hx hb dL_law_1515 rfl (lv_at hl 3 rfl) ?_
  refine lv_aload_n hx hb dL_law_1516 rfl (lv_at hl 1 rfl) ?_
  refine lv_iload_n hx hb dL_law_1517 rfl (lv_at hl 0 rfl) ?_
  refine lv_iconst (v := 1) hx hb dL_law_1518 (by decide) ?_
  refine lv_iadd hx hb dL_law_1519 ?_
  refine nmI (nI_p i 1 (by decide)) ?_
  refine va_sld hx hb hX hbl hbA hS (vp_in_nI (show i + 1 < L by omega) (by omega)) dL_law_1520 ?_
  refine nmI (z := xs (i + 1)) (by rw [nI_clamp (by omega)]) ?_
  refine cIp hP hD hS hA hE (fun hPc hDc hSc => rV (As := [.int (xs (i + 1))]) (rest := [.int u]) hx hb hml hown hts hK (c_X10_count l g a1 (p10_papers s10) (p10_raw s10) (p10_kind s10) (p10_figure s10) (p10_heavy s10) (p10_place s10) (p10_rules s10) (p10_lower s10) (p10_upper s10) (p10_limits s10) (p10_limit s10) (p10_ties s10) (p10_letter s10) (p10_letters s10) (p10_told s10) (p10_tolds s10) (p10_places s10) (p10_cell s10) (p10_refusals s10) (p10_imaged s10) (p10_hasImage s10) (p10_before s10) (p10_up s10) (p10_down s10) (p10_beneath s10) (p10_numberUp s10) (p10_numberDown s10) (p10_block s10) (p10_blocks s10) (p10_merged s10) (p10_valueUp s10) (p10_valueDown s10) (p10_said s10) (p10_saids s10) (p10_at s10) (p10_number s10) (xs (i + 1)) (by rw [hv]; exact Option.some_ne_none _)) svV_X10_count kw1765 rfl rfl hPc hDc hSc rfl rfl hl.1 (Nat.le_of_ble_eq_true rfl) dL_law_1521 ⟨Nat.le_of_ble_eq_true rfl, Nat.le_of_ble_eq_true rfl, rfl, rfl, hcl, hsl⟩) [(132, 22)] rfl rfl rfl (fun w H locs ew nw hP hS => ?_)
  obtain rfl := Option.some.inj (hv.symm.trans ew)
  refine lv_icmp_eq (tgt := 1529) hx hb dL_law_1524 (by decide) (fun _ => ?_) (fun c => absurd he c)
  refine W.widen (k := cells + 24) (n := slots + 7200) (by omega) (by omega) ?_
  exact kk s9 s10 _ _ hR hP hD hS
