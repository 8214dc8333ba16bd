abbrev wX2 (a : Nat → Nat) (g : GG) (n : Nat) (s : T2) : va_W := [(a 0, .inr (3, [.ref (a 1)])), (a 1, .inl (g.2.1, n, .inl s))]
abbrev wX1 (a : Nat → Nat) (g : GG) (s : T1) : va_W := [(a 0, .inr (2, [.long (p1_above s), .long (p1_below s)]))]
abbrev wX6 (a : Nat → Nat) (g : GG) (s : T6) : va_W := [(a 0, .inr (7, [.ref (a 1), .ref (a 3), .ref (a 5), .ref (a 7), .ref (a 9), .int (p6_papers s), .ref (a 11), .ref (a 13), .int (p6_rules s), .ref (a 15), .int (p6_boundCount s), .int (p6_tieWay s), .ref (a 17)])), (a 1, .inr (3, [.ref (a 2)])), (a 2, .inl (g.2.1, 7, .inl (p6_raws s))), (a 3, .inr (3, [.ref (a 4)])), (a 4, .inl (g.2.1, 7, .inl (p6_kinds s))), (a 5, .inr (3, [.ref (a 6)])), (a 6, .inl (g.2.1, 7, .inl (p6_figures s))), (a 7, .inr (3, [.ref (a 8)])), (a 8, .inl (g.2.1, 7, .inl (p6_heavies s))), (a 9, .inr (3, [.ref (a 10)])), (a 10, .inl (g.2.1, 7, .inl (p6_places s))), (a 11, .inr (3, [.ref (a 12)])), (a 12, .inl (g.2.1, 12, .inl (p6_lowers s))), (a 13, .inr (3, [.ref (a 14)])), (a 14, .inl (g.2.1, 12, .inl (p6_uppers s))), (a 15, .inr (3, [.ref (a 16)])), (a 16, .inl (g.2.1, 5, .inl (p6_bounds s))), (a 17, .inr (3, [.ref (a 18)])), (a 18, .inl (g.2.1, 7, .inl (p6_reached s)))]
abbrev wX5 (a : Nat → Nat) (g : GG) (s : T5) : va_W := [(a 0, .inr (6, [.ref (a 1), .ref (a 3), .ref (a 5), .ref (a 7), .int (p5_papers s)])), (a 1, .inr (3, [.ref (a 2)])), (a 2, .inl (g.2.1, 7, .inl (p5_overs s))), (a 3, .inr (3, [.ref (a 4)])), (a 4, .inl (g.2.1, 7, .inl (p5_unders s))), (a 5, .inr (3, [.ref (a 6)])), (a 6, .inl (g.2.1, 7, .inl (p5_marks s))), (a 7, .inr (3, [.ref (a 8)])), (a 8, .inl (g.2.1, 7, .inl (p5_wrongs s)))]
abbrev wX8 (a : Nat → Nat) (g : GG) (s : T8) : va_W := [(a 0, .inr (9, [.ref (a 1), .ref (a 3), .ref (a 5), .ref (a 7), .ref (a 9), .ref (a 11), .int (p8_papers s)])), (a 1, .inr (3, [.ref (a 2)])), (a 2, .inl (g.2.1, 7, .inl (p8_marks s))), (a 3, .inr (3, [.ref (a 4)])), (a 4, .inl (g.2.1, 7, .inl (p8_weights s))), (a 5, .inr (3, [.ref (a 6)])), (a 6, .inl (g.2.1, 7, .inl (p8_places s))), (a 7, .inr (3, [.ref (a 8)])), (a 8, .inl (g.2.1, 7, .inl (p8_aboves s))), (a 9, .inr (3, [.ref (a 10)])), (a 10, .inl (g.2.1, 7, .inl (p8_belows s))), (a 11, .inr (2, [.long (p1_above (p8_reduced s)), .long (p1_below (p8_reduced s))]))]
abbrev wX3 (a : Nat → Nat) (g : GG) (s : T3) : va_W := [(a 0, .inr (4, [.ref (a 1), .ref (a 3), .int (p3_size s), .int (p3_at s), .int (p3_word s)])), (a 1, .inr (3, [.ref (a 2)])), (a 2, .inl (g.2.1, 120, .inl (p3_signs s))), (a 3, .inr (3, [.ref (a 4)])), (a 4, .inl (g.2.1, 3, .inl (p3_numbers s)))]
abbrev wX7 (a : Nat → Nat) (g : GG) (s : T7) : va_W := [(a 0, .inr (8, [.ref (a 1), .ref (a 2), .ref (a 4)])), (a 1, .inl (g.2.2.1, 80, .inr (.inl (p7_cells s)))), (a 2, .inr (3, [.ref (a 3)])), (a 3, .inl (g.2.1, 4, .inl (p7_sizes s))), (a 4, .inr (3, [.ref (a 5)])), (a 5, .inl (g.2.1, 4, .inl (p7_made s)))]
abbrev wX4 (a : Nat → Nat) (g : GG) (s : T4) : va_W := [(a 0, .inr (5, [.ref (a 1), .ref (a 13), .ref (a 15), .ref (a 17), .int (p4_blocksNow s), .int (p4_mergesDone s), .int (p4_loss s)])), (a 1, .inr (9, [.ref (a 2), .ref (a 4), .ref (a 6), .ref (a 8), .ref (a 10), .ref (a 12), .int (p8_papers (p4_values s))])), (a 2, .inr (3, [.ref (a 3)])), (a 3, .inl (g.2.1, 7, .inl (p8_marks (p4_values s)))), (a 4, .inr (3, [.ref (a 5)])), (a 5, .inl (g.2.1, 7, .inl (p8_weights (p4_values s)))), (a 6, .inr (3, [.ref (a 7)])), (a 7, .inl (g.2.1, 7, .inl (p8_places (p4_values s)))), (a 8, .inr (3, [.ref (a 9)])), (a 9, .inl (g.2.1, 7, .inl (p8_aboves (p4_values s)))), (a 10, .inr (3, [.ref (a 11)])), (a 11, .inl (g.2.1, 7, .inl (p8_belows (p4_values s)))), (a 12, .inr (2, [.long (p1_above (p8_reduced (p4_values s))), .long (p1_below (p8_reduced (p4_values s)))])), (a 13, .inr (3, [.ref (a 14)])), (a 14, .inl (g.2.1, 7, .inl (p4_blocks s))), (a 15, .inr (3, [.ref (a 16)])), (a 16, .inl (g.2.1, 7, .inl (p4_tops s))), (a 17, .inr (3, [.ref (a 18)])), (a 18, .inl (g.2.1, 7, .inl (p4_bottoms s)))]
abbrev wX0 (a : Nat → Nat) (g : GG) (s : T0) : va_W := [(a 0, .inr (1, [.ref (a 1), .ref (a 13), .ref (a 22), .ref (a 24), .ref (a 26)])), (a 1, .inr (9, [.ref (a 2), .ref (a 4), .ref (a 6), .ref (a 8), .ref (a 10), .ref (a 12), .int (p8_papers (p0_values s))])), (a 2, .inr (3, [.ref (a 3)])), (a 3, .inl (g.2.1, 7, .inl (p8_marks (p0_values s)))), (a 4, .inr (3, [.ref (a 5)])), (a 5, .inl (g.2.1, 7, .inl (p8_weights (p0_values s)))), (a 6, .inr (3, [.ref (a 7)])), (a 7, .inl (g.2.1, 7, .inl (p8_places (p0_values s)))), (a 8, .inr (3, [.ref (a 9)])), (a 9, .inl (g.2.1, 7, .inl (p8_aboves (p0_values s)))), (a 10, .inr (3, [.ref (a 11)])), (a 11, .inl (g.2.1, 7, .inl (p8_belows (p0_values s)))), (a 12, .inr (2, [.long (p1_above (p8_reduced (p0_values s))), .long (p1_below (p8_reduced (p0_values s)))])), (a 13, .inr (6, [.ref (a 14), .ref (a 16), .ref (a 18), .ref (a 20), .int (p5_papers (p0_order s))])), (a 14, .inr (3, [.ref (a 15)])), (a 15, .inl (g.2.1, 7, .inl (p5_overs (p0_order s)))), (a 16, .inr (3, [.ref (a 17)])), (a 17, .inl (g.2.1, 7, .inl (p5_unders (p0_order s)))), (a 18, .inr (3, [.ref (a 19)])), (a 19, .inl (g.2.1, 7, .inl (p5_marks (p0_order s)))), (a 20, .inr (3, [.ref (a 21)])), (a 21, .inl (g.2.1, 7, .inl (p5_wrongs (p0_order s)))), (a 22, .inr (3, [.ref (a 23)])), (a 23, .inl (g.2.1, 128, .inl (p0_sums s))), (a 24, .inr (3, [.ref (a 25)])), (a 25, .inl (g.2.1, 128, .inl (p0_weighs s))), (a 26, .inr (3, [.ref (a 27)])), (a 27, .inl (g.2.1, 128, .inl (p0_downs s)))]
abbrev wX9 (a : Nat → Nat) (g : GG) (s : T9) : va_W := [(a 0, .inr (10, [.ref (a 1), .ref (a 20), .ref (a 39), .int (p9_isKept s), .ref (a 58), .ref (a 63), .int (p9_toldCount s), .ref (a 65), .ref (a 71), .ref (a 73), .ref (a 82), .ref (a 101), .ref (a 129), .ref (a 130)])), (a 1, .inr (7, [.ref (a 2), .ref (a 4), .ref (a 6), .ref (a 8), .ref (a 10), .int (p6_papers (p9_now s)), .ref (a 12), .ref (a 14), .int (p6_rules (p9_now s)), .ref (a 16), .int (p6_boundCount (p9_now s)), .int (p6_tieWay (p9_now s)), .ref (a 18)])), (a 2, .inr (3, [.ref (a 3)])), (a 3, .inl (g.2.1, 7, .inl (p6_raws (p9_now s)))), (a 4, .inr (3, [.ref (a 5)])), (a 5, .inl (g.2.1, 7, .inl (p6_kinds (p9_now s)))), (a 6, .inr (3, [.ref (a 7)])), (a 7, .inl (g.2.1, 7, .inl (p6_figures (p9_now s)))), (a 8, .inr (3, [.ref (a 9)])), (a 9, .inl (g.2.1, 7, .inl (p6_heavies (p9_now s)))), (a 10, .inr (3, [.ref (a 11)])), (a 11, .inl (g.2.1, 7, .inl (p6_places (p9_now s)))), (a 12, .inr (3, [.ref (a 13)])), (a 13, .inl (g.2.1, 12, .inl (p6_lowers (p9_now s)))), (a 14, .inr (3, [.ref (a 15)])), (a 15, .inl (g.2.1, 12, .inl (p6_uppers (p9_now s)))), (a 16, .inr (3, [.ref (a 17)])), (a 17, .inl (g.2.1, 5, .inl (p6_bounds (p9_now s)))), (a 18, .inr (3, [.ref (a 19)])), (a 19, .inl (g.2.1, 7, .inl (p6_reached (p9_now s)))), (a 20, .inr (7, [.ref (a 21), .ref (a 23), .ref (a 25), .ref (a 27), .ref (a 29), .int (p6_papers (p9_kept s)), .ref (a 31), .ref (a 33), .int (p6_rules (p9_kept s)), .ref (a 35), .int (p6_boundCount (p9_kept s)), .int (p6_tieWay (p9_kept s)), .ref (a 37)])), (a 21, .inr (3, [.ref (a 22)])), (a 22, .inl (g.2.1, 7, .inl (p6_raws (p9_kept s)))), (a 23, .inr (3, [.ref (a 24)])), (a 24, .inl (g.2.1, 7, .inl (p6_kinds (p9_kept s)))), (a 25, .inr (3, [.ref (a 26)])), (a 26, .inl (g.2.1, 7, .inl (p6_figures (p9_kept s)))), (a 27, .inr (3, [.ref (a 28)])), (a 28, .inl (g.2.1, 7, .inl (p6_heavies (p9_kept s)))), (a 29, .inr (3, [.ref (a 30)])), (a 30, .inl (g.2.1, 7, .inl (p6_places (p9_kept s)))), (a 31, .inr (3, [.ref (a 32)])), (a 32, .inl (g.2.1, 12, .inl (p6_lowers (p9_kept s)))), (a 33, .inr (3, [.ref (a 34)])), (a 34, .inl (g.2.1, 12, .inl (p6_uppers (p9_kept s)))), (a 35, .inr (3, [.ref (a 36)])), (a 36, .inl (g.2.1, 5, .inl (p6_bounds (p9_kept s)))), (a 37, .inr (3, [.ref (a 38)])), (a 38, .inl (g.2.1, 7, .inl (p6_reached (p9_kept s)))), (a 39, .inr (7, [.ref (a 40), .ref (a 42), .ref (a 44), .ref (a 46), .ref (a 48), .int (p6_papers (p9_spare s)), .ref (a 50), .ref (a 52), .int (p6_rules (p9_spare s)), .ref (a 54), .int (p6_boundCount (p9_spare s)), .int (p6_tieWay (p9_spare s)), .ref (a 56)])), (a 40, .inr (3, [.ref (a 41)])), (a 41, .inl (g.2.1, 7, .inl (p6_raws (p9_spare s)))), (a 42, .inr (3, [.ref (a 43)])), (a 43, .inl (g.2.1, 7, .inl (p6_kinds (p9_spare s)))), (a 44, .inr (3, [.ref (a 45)])), (a 45, .inl (g.2.1, 7, .inl (p6_figures (p9_spare s)))), (a 46, .inr (3, [.ref (a 47)])), (a 47, .inl (g.2.1, 7, .inl (p6_heavies (p9_spare s)))), (a 48, .inr (3, [.ref (a 49)])), (a 49, .inl (g.2.1, 7, .inl (p6_places (p9_spare s)))), (a 50, .inr (3, [.ref (a 51)])), (a 51, .inl (g.2.1, 12, .inl (p6_lowers (p9_spare s)))), (a 52, .inr (3, [.ref (a 53)])), (a 53, .inl (g.2.1, 12, .inl (p6_uppers (p9_spare s)))), (a 54, .inr (3, [.ref (a 55)])), (a 55, .inl (g.2.1, 5, .inl (p6_bounds (p9_spare s)))), (a 56, .inr (3, [.ref (a 57)])), (a 57, .inl (g.2.1, 7, .inl (p6_reached (p9_spare s)))), (a 58, .inr (4, [.ref (a 59), .ref (a 61), .int (p3_size (p9_letters s)), .int (p3_at (p9_letters s)), .int (p3_word (p9_letters s))])), (a 59, .inr (3, [.ref (a 60)])), (a 60, .inl (g.2.1, 120, .inl (p3_signs (p9_letters s)))), (a 61, .inr (3, [.ref (a 62)])), (a 62, .inl (g.2.1, 3, .inl (p3_numbers (p9_letters s)))), (a 63, .inr (3, [.ref (a 64)])), (a 64, .inl (g.2.1, 10, .inl (p9_told s))), (a 65, .inr (8, [.ref (a 66), .ref (a 67), .ref (a 69)])), (a 66, .inl (g.2.2.1, 80, .inr (.inl (p7_cells (p9_shelves s))))), (a 67, .inr (3, [.ref (a 68)])), (a 68, .inl (g.2.1, 4, .inl (p7_sizes (p9_shelves s)))), (a 69, .inr (3, [.ref (a 70)])), (a 70, .inl (g.2.1, 4, .inl (p7_made (p9_shelves s)))), (a 71, .inr (3, [.ref (a 72)])), (a 72, .inl (g.2.1, 7, .inl (p9_refusals s))), (a 73, .inr (6, [.ref (a 74), .ref (a 76), .ref (a 78), .ref (a 80), .int (p5_papers (p9_order s))])), (a 74, .inr (3, [.ref (a 75)])), (a 75, .inl (g.2.1, 7, .inl (p5_overs (p9_order s)))), (a 76, .inr (3, [.ref (a 77)])), (a 77, .inl (g.2.1, 7, .inl (p5_unders (p9_order s)))), (a 78, .inr (3, [.ref (a 79)])), (a 79, .inl (g.2.1, 7, .inl (p5_marks (p9_order s)))), (a 80, .inr (3, [.ref (a 81)])), (a 81, .inl (g.2.1, 7, .inl (p5_wrongs (p9_order s)))), (a 82, .inr (5, [.ref (a 83), .ref (a 95), .ref (a 97), .ref (a 99), .int (p4_blocksNow (p9_standing s)), .int (p4_mergesDone (p9_standing s)), .int (p4_loss (p9_standing s))])), (a 83, .inr (9, [.ref (a 84), .ref (a 86), .ref (a 88), .ref (a 90), .ref (a 92), .ref (a 94), .int (p8_papers (p4_values (p9_standing s)))])), (a 84, .inr (3, [.ref (a 85)])), (a 85, .inl (g.2.1, 7, .inl (p8_marks (p4_values (p9_standing s))))), (a 86, .inr (3, [.ref (a 87)])), (a 87, .inl (g.2.1, 7, .inl (p8_weights (p4_values (p9_standing s))))), (a 88, .inr (3, [.ref (a 89)])), (a 89, .inl (g.2.1, 7, .inl (p8_places (p4_values (p9_standing s))))), (a 90, .inr (3, [.ref (a 91)])), (a 91, .inl (g.2.1, 7, .inl (p8_aboves (p4_values (p9_standing s))))), (a 92, .inr (3, [.ref (a 93)])), (a 93, .inl (g.2.1, 7, .inl (p8_belows (p4_values (p9_standing s))))), (a 94, .inr (2, [.long (p1_above (p8_reduced (p4_values (p9_standing s)))), .long (p1_below (p8_reduced (p4_values (p9_standing s))))])), (a 95, .inr (3, [.ref (a 96)])), (a 96, .inl (g.2.1, 7, .inl (p4_blocks (p9_standing s)))), (a 97, .inr (3, [.ref (a 98)])), (a 98, .inl (g.2.1, 7, .inl (p4_tops (p9_standing s)))), (a 99, .inr (3, [.ref (a 100)])), (a 100, .inl (g.2.1, 7, .inl (p4_bottoms (p9_standing s)))), (a 101, .inr (1, [.ref (a 102), .ref (a 114), .ref (a 123), .ref (a 125), .ref (a 127)])), (a 102, .inr (9, [.ref (a 103), .ref (a 105), .ref (a 107), .ref (a 109), .ref (a 111), .ref (a 113), .int (p8_papers (p0_values (p9_byRules s)))])), (a 103, .inr (3, [.ref (a 104)])), (a 104, .inl (g.2.1, 7, .inl (p8_marks (p0_values (p9_byRules s))))), (a 105, .inr (3, [.ref (a 106)])), (a 106, .inl (g.2.1, 7, .inl (p8_weights (p0_values (p9_byRules s))))), (a 107, .inr (3, [.ref (a 108)])), (a 108, .inl (g.2.1, 7, .inl (p8_places (p0_values (p9_byRules s))))), (a 109, .inr (3, [.ref (a 110)])), (a 110, .inl (g.2.1, 7, .inl (p8_aboves (p0_values (p9_byRules s))))), (a 111, .inr (3, [.ref (a 112)])), (a 112, .inl (g.2.1, 7, .inl (p8_belows (p0_values (p9_byRules s))))), (a 113, .inr (2, [.long (p1_above (p8_reduced (p0_values (p9_byRules s)))), .long (p1_below (p8_reduced (p0_values (p9_byRules s))))])), (a 114, .inr (6, [.ref (a 115), .ref (a 117), .ref (a 119), .ref (a 121), .int (p5_papers (p0_order (p9_byRules s)))])), (a 115, .inr (3, [.ref (a 116)])), (a 116, .inl (g.2.1, 7, .inl (p5_overs (p0_order (p9_byRules s))))), (a 117, .inr (3, [.ref (a 118)])), (a 118, .inl (g.2.1, 7, .inl (p5_unders (p0_order (p9_byRules s))))), (a 119, .inr (3, [.ref (a 120)])), (a 120, .inl (g.2.1, 7, .inl (p5_marks (p0_order (p9_byRules s))))), (a 121, .inr (3, [.ref (a 122)])), (a 122, .inl (g.2.1, 7, .inl (p5_wrongs (p0_order (p9_byRules s))))), (a 123, .inr (3, [.ref (a 124)])), (a 124, .inl (g.2.1, 128, .inl (p0_sums (p9_byRules s)))), (a 125, .inr (3, [.ref (a 126)])), (a 126, .inl (g.2.1, 128, .inl (p0_weighs (p9_byRules s)))), (a 127, .inr (3, [.ref (a 128)])), (a 128, .inl (g.2.1, 128, .inl (p0_downs (p9_byRules s)))), (a 129, .inr (2, [.long (p1_above (p9_fraction s)), .long (p1_below (p9_fraction s))])), (a 130, .inr (0, [.ref (p9_said s).1, .int 0, .int 0, .int (p9_said s).2.2.2])), ((p9_said s).1, .inl (g.2.2.2, (p9_said s).2.1, .inl (p9_said s).2.2.1))]
abbrev wX10 (a : Nat → Nat) (g : GG) (s : T10) : va_W := [(a 0, .inr (11, [.int (p10_papers s), .ref (a 1), .ref (a 2), .ref (a 3), .ref (a 4), .ref (a 5), .int (p10_rules s), .ref (a 6), .ref (a 7), .int (p10_limits s), .ref (a 8), .int (p10_ties s), .ref (a 9), .int (p10_letters s), .ref (a 10), .int (p10_tolds s), .ref (a 11), .ref (a 12), .ref (a 13), .ref (a 14), .int (p10_hasImage s), .ref (a 15), .long (p10_up s), .long (p10_down s), .ref (a 16), .int (p10_numberUp s), .int (p10_numberDown s), .ref (a 17), .int (p10_blocks s), .int (p10_merged s), .ref (a 18), .ref (a 19), .ref (a 20), .int (p10_saids s), .int (p10_at s), .ref (a 21)])), (a 1, .inl (g.2.1, 7, .inl (p10_raw s))), (a 2, .inl (g.2.1, 7, .inl (p10_kind s))), (a 3, .inl (g.2.1, 7, .inl (p10_figure s))), (a 4, .inl (g.2.1, 7, .inl (p10_heavy s))), (a 5, .inl (g.2.1, 7, .inl (p10_place s))), (a 6, .inl (g.2.1, 12, .inl (p10_lower s))), (a 7, .inl (g.2.1, 12, .inl (p10_upper s))), (a 8, .inl (g.2.1, 5, .inl (p10_limit s))), (a 9, .inl (g.2.1, 120, .inl (p10_letter s))), (a 10, .inl (g.2.1, 10, .inl (p10_told s))), (a 11, .inl (g.2.1, 4, .inl (p10_places s))), (a 12, .inl (g.2.2.1, 80, .inr (.inl (p10_cell s)))), (a 13, .inl (g.2.1, 7, .inl (p10_refusals s))), (a 14, .inl (g.2.1, 69, .inl (p10_imaged s))), (a 15, .inl (g.2.1, 69, .inl (p10_before s))), (a 16, .inl (g.2.1, 7, .inl (p10_beneath s))), (a 17, .inl (g.2.1, 7, .inl (p10_block s))), (a 18, .inl (g.2.1, 7, .inl (p10_valueUp s))), (a 19, .inl (g.2.1, 7, .inl (p10_valueDown s))), (a 20, .inl (g.2.1, 120, .inl (p10_said s))), (a 21, .inl (g.2.1, 3, .inl (p10_number s)))]
theorem svV_X2_get : SV RX2 yX2_get cX2_get 2 (some .int) 1 := ⟨kw268, kw269, kw3, kw270, rfl, by decide, by decide, by decide +kernel⟩
theorem svV_X2_set : SV RX2 yX2_set cX2_set 3 none 2 := ⟨kw272, kw273, kw3, kw274, rfl, by decide, by decide, by decide +kernel⟩
theorem svS_X1_commonOf : SS RX1 yX1_commonOf cX1_commonOf 11 (some .long) 2 := ⟨kw772, kw10, kw773, rfl, by decide, by decide, by decide +kernel⟩
theorem svV_X1_make : SV RX1 yX1_make cX1_make 7 none 2 := ⟨kw768, kw769, kw10, kw770, rfl, by decide, by decide, by decide +kernel⟩
theorem dX2_get_0 : decode cX2_get 0 = .ok (.iload_n 1, 1) := by decide +kernel
theorem dX2_get_1 : decode cX2_get 1 = .ok (.ifCond .lt 21, 3) := by decide +kernel
theorem dX2_get_22 : decode cX2_get 22 = .ok (.iconst 0, 1) := by decide +kernel
theorem dX2_get_23 : decode cX2_get 23 = .ok (.ireturn, 1) := by decide +kernel
theorem dX2_get_4 : decode cX2_get 4 = .ok (.iload_n 1, 1) := by decide +kernel
theorem dX2_get_5 : decode cX2_get 5 = .ok (.aload_n 0, 1) := by decide +kernel
theorem dX2_get_6 : decode cX2_get 6 = .ok (.getfield 13, 3) := by decide +kernel
theorem dX2_get_9 : decode cX2_get 9 = .ok (.arraylength, 1) := by decide +kernel
theorem dX2_get_10 : decode cX2_get 10 = .ok (.if_icmp .ge 12, 3) := by decide +kernel
theorem dX2_get_13 : decode cX2_get 13 = .ok (.aload_n 0, 1) := by decide +kernel
theorem dX2_get_14 : decode cX2_get 14 = .ok (.getfield 13, 3) := by decide +kernel
theorem dX2_get_17 : decode cX2_get 17 = .ok (.iload_n 1, 1) := by decide +kernel
theorem dX2_get_18 : decode cX2_get 18 = .ok (.iaload, 1) := by decide +kernel
theorem dX2_get_19 : decode cX2_get 19 = .ok (.goto 4, 3) := by decide +kernel
theorem dX2_set_0 : decode cX2_set 0 = .ok (.iload_n 1, 1) := by decide +kernel
theorem dX2_set_1 : decode cX2_set 1 = .ok (.ifCond .lt 19, 3) := by decide +kernel
theorem dX2_set_20 : decode cX2_set 20 = .ok (.return_, 1) := by decide +kernel
theorem dX2_set_4 : decode cX2_set 4 = .ok (.iload_n 1, 1) := by decide +kernel
theorem dX2_set_5 : decode cX2_set 5 = .ok (.aload_n 0, 1) := by decide +kernel
theorem dX2_set_6 : decode cX2_set 6 = .ok (.getfield 13, 3) := by decide +kernel
theorem dX2_set_9 : decode cX2_set 9 = .ok (.arraylength, 1) := by decide +kernel
theorem dX2_set_10 : decode cX2_set 10 = .ok (.if_icmp .ge 10, 3) := by decide +kernel
theorem dX2_set_13 : decode cX2_set 13 = .ok (.aload_n 0, 1) := by decide +kernel
theorem dX2_set_14 : decode cX2_set 14 = .ok (.getfield 13, 3) := by decide +kernel
theorem dX2_set_17 : decode cX2_set 17 = .ok (.iload_n 1, 1) := by decide +kernel
theorem dX2_set_18 : decode cX2_set 18 = .ok (.iload_n 2, 1) := by decide +kernel
theorem dX2_set_19 : decode cX2_set 19 = .ok (.iastore, 1) := by decide +kernel
theorem dX2_add_0 : decode cX2_add 0 = .ok (.aload_n 0, 1) := by decide +kernel
theorem dX2_add_1 : decode cX2_add 1 = .ok (.iload_n 1, 1) := by decide +kernel
theorem dX2_add_2 : decode cX2_add 2 = .ok (.aload_n 0, 1) := by decide +kernel
theorem dX2_add_3 : decode cX2_add 3 = .ok (.iload_n 1, 1) := by decide +kernel
theorem dX2_add_4 : decode cX2_add 4 = .ok (.invokevirtual 19, 3) := by decide +kernel
theorem dX2_add_7 : decode cX2_add 7 = .ok (.iload_n 2, 1) := by decide +kernel
theorem dX2_add_8 : decode cX2_add 8 = .ok (.iadd, 1) := by decide +kernel
theorem dX2_add_9 : decode cX2_add 9 = .ok (.invokevirtual 23, 3) := by decide +kernel
theorem dX2_add_12 : decode cX2_add 12 = .ok (.return_, 1) := by decide +kernel
theorem dX2_removeAt_0 : decode cX2_removeAt 0 = .ok (.iload_n 1, 1) := by decide +kernel
theorem dX2_removeAt_1 : decode cX2_removeAt 1 = .ok (.istore_n 2, 1) := by decide +kernel
theorem dX2_removeAt_2 : decode cX2_removeAt 2 = .ok (.iload_n 2, 1) := by decide +kernel
theorem dX2_removeAt_3 : decode cX2_removeAt 3 = .ok (.aload_n 0, 1) := by decide +kernel
theorem dX2_removeAt_4 : decode cX2_removeAt 4 = .ok (.getfield 13, 3) := by decide +kernel
theorem dX2_removeAt_7 : decode cX2_removeAt 7 = .ok (.arraylength, 1) := by decide +kernel
theorem dX2_removeAt_8 : decode cX2_removeAt 8 = .ok (.if_icmp .ge 21, 3) := by decide +kernel
theorem dX2_removeAt_11 : decode cX2_removeAt 11 = .ok (.aload_n 0, 1) := by decide +kernel
theorem dX2_removeAt_12 : decode cX2_removeAt 12 = .ok (.iload_n 2, 1) := by decide +kernel
theorem dX2_removeAt_13 : decode cX2_removeAt 13 = .ok (.aload_n 0, 1) := by decide +kernel
theorem dX2_removeAt_14 : decode cX2_removeAt 14 = .ok (.iload_n 2, 1) := by decide +kernel
theorem dX2_removeAt_15 : decode cX2_removeAt 15 = .ok (.iconst 1, 1) := by decide +kernel
theorem dX2_removeAt_16 : decode cX2_removeAt 16 = .ok (.iadd, 1) := by decide +kernel
theorem dX2_removeAt_17 : decode cX2_removeAt 17 = .ok (.invokevirtual 19, 3) := by decide +kernel
theorem dX2_removeAt_20 : decode cX2_removeAt 20 = .ok (.invokevirtual 23, 3) := by decide +kernel
theorem dX2_removeAt_23 : decode cX2_removeAt 23 = .ok (.iinc 2 1, 3) := by decide +kernel
theorem dX2_removeAt_26 : decode cX2_removeAt 26 = .ok (.goto (-24), 3) := by decide +kernel
theorem dX2_removeAt_29 : decode cX2_removeAt 29 = .ok (.return_, 1) := by decide +kernel
theorem dX2_copyFrom_0 : decode cX2_copyFrom 0 = .ok (.iconst 0, 1) := by decide +kernel
theorem dX2_copyFrom_1 : decode cX2_copyFrom 1 = .ok (.istore_n 2, 1) := by decide +kernel
theorem dX2_copyFrom_2 : decode cX2_copyFrom 2 = .ok (.iload_n 2, 1) := by decide +kernel
theorem dX2_copyFrom_3 : decode cX2_copyFrom 3 = .ok (.aload_n 0, 1) := by decide +kernel
theorem dX2_copyFrom_4 : decode cX2_copyFrom 4 = .ok (.getfield 13, 3) := by decide +kernel
theorem dX2_copyFrom_7 : decode cX2_copyFrom 7 = .ok (.arraylength, 1) := by decide +kernel
theorem dX2_copyFrom_8 : decode cX2_copyFrom 8 = .ok (.if_icmp .ge 20, 3) := by decide +kernel
theorem dX2_copyFrom_11 : decode cX2_copyFrom 11 = .ok (.aload_n 0, 1) := by decide +kernel
theorem dX2_copyFrom_12 : decode cX2_copyFrom 12 = .ok (.getfield 13, 3) := by decide +kernel
theorem dX2_copyFrom_15 : decode cX2_copyFrom 15 = .ok (.iload_n 2, 1) := by decide +kernel
theorem dX2_copyFrom_16 : decode cX2_copyFrom 16 = .ok (.aload_n 1, 1) := by decide +kernel
theorem dX2_copyFrom_17 : decode cX2_copyFrom 17 = .ok (.iload_n 2, 1) := by decide +kernel
theorem dX2_copyFrom_18 : decode cX2_copyFrom 18 = .ok (.invokevirtual 19, 3) := by decide +kernel
theorem dX2_copyFrom_21 : decode cX2_copyFrom 21 = .ok (.iastore, 1) := by decide +kernel
theorem dX2_copyFrom_22 : decode cX2_copyFrom 22 = .ok (.iinc 2 1, 3) := by decide +kernel
theorem dX2_copyFrom_25 : decode cX2_copyFrom 25 = .ok (.goto (-23), 3) := by decide +kernel
theorem dX2_copyFrom_28 : decode cX2_copyFrom 28 = .ok (.return_, 1) := by decide +kernel
theorem dX1_commonOf_0 : decode cX1_commonOf 0 = .ok (.lload_n 0, 1) := by decide +kernel
theorem dX1_commonOf_1 : decode cX1_commonOf 1 = .ok (.lconst 0, 1) := by decide +kernel
theorem dX1_commonOf_12 : decode cX1_commonOf 12 = .ok (.lstore 4, 2) := by decide +kernel
theorem dX1_commonOf_14 : decode cX1_commonOf 14 = .ok (.lload_n 2, 1) := by decide +kernel
theorem dX1_commonOf_15 : decode cX1_commonOf 15 = .ok (.lconst 0, 1) := by decide +kernel
theorem dX1_commonOf_26 : decode cX1_commonOf 26 = .ok (.lstore 6, 2) := by decide +kernel
theorem dX1_commonOf_28 : decode cX1_commonOf 28 = .ok (.iconst 0, 1) := by decide +kernel
theorem dX1_commonOf_29 : decode cX1_commonOf 29 = .ok (.istore 8, 2) := by decide +kernel
theorem dX1_commonOf_31 : decode cX1_commonOf 31 = .ok (.iload 8, 2) := by decide +kernel
theorem dX1_commonOf_33 : decode cX1_commonOf 33 = .ok (.sipush 200, 3) := by decide +kernel
theorem dX1_commonOf_36 : decode cX1_commonOf 36 = .ok (.if_icmp .ge 31, 3) := by decide +kernel
theorem dX1_commonOf_39 : decode cX1_commonOf 39 = .ok (.lload 6, 2) := by decide +kernel
theorem dX1_commonOf_41 : decode cX1_commonOf 41 = .ok (.lconst 0, 1) := by decide +kernel
theorem dX1_commonOf_42 : decode cX1_commonOf 42 = .ok (.lcmp, 1) := by decide +kernel
theorem dX1_commonOf_43 : decode cX1_commonOf 43 = .ok (.ifCond .eq 24, 3) := by decide +kernel
theorem dX1_commonOf_46 : decode cX1_commonOf 46 = .ok (.lload 4, 2) := by decide +kernel
theorem dX1_commonOf_48 : decode cX1_commonOf 48 = .ok (.lload 6, 2) := by decide +kernel
theorem dX1_commonOf_50 : decode cX1_commonOf 50 = .ok (.lrem, 1) := by decide +kernel
theorem dX1_commonOf_51 : decode cX1_commonOf 51 = .ok (.lstore 9, 2) := by decide +kernel
theorem dX1_commonOf_53 : decode cX1_commonOf 53 = .ok (.lload 6, 2) := by decide +kernel
theorem dX1_commonOf_55 : decode cX1_commonOf 55 = .ok (.lstore 4, 2) := by decide +kernel
theorem dX1_commonOf_57 : decode cX1_commonOf 57 = .ok (.lload 9, 2) := by decide +kernel
theorem dX1_commonOf_59 : decode cX1_commonOf 59 = .ok (.lstore 6, 2) := by decide +kernel
theorem dX1_commonOf_61 : decode cX1_commonOf 61 = .ok (.iinc 8 1, 3) := by decide +kernel
theorem dX1_commonOf_64 : decode cX1_commonOf 64 = .ok (.goto (-33), 3) := by decide +kernel
theorem dX1_commonOf_67 : decode cX1_commonOf 67 = .ok (.lload 4, 2) := by decide +kernel
theorem dX1_commonOf_69 : decode cX1_commonOf 69 = .ok (.lreturn, 1) := by decide +kernel
theorem dX1_commonOf_16 : decode cX1_commonOf 16 = .ok (.lcmp, 1) := by decide +kernel
theorem dX1_commonOf_17 : decode cX1_commonOf 17 = .ok (.ifCond .ge 8, 3) := by decide +kernel
theorem dX1_commonOf_25 : decode cX1_commonOf 25 = .ok (.lload_n 2, 1) := by decide +kernel
theorem dX1_commonOf_20 : decode cX1_commonOf 20 = .ok (.lload_n 2, 1) := by decide +kernel
theorem dX1_commonOf_21 : decode cX1_commonOf 21 = .ok (.lneg, 1) := by decide +kernel
theorem dX1_commonOf_22 : decode cX1_commonOf 22 = .ok (.goto 4, 3) := by decide +kernel
theorem dX1_commonOf_2 : decode cX1_commonOf 2 = .ok (.lcmp, 1) := by decide +kernel
theorem dX1_commonOf_3 : decode cX1_commonOf 3 = .ok (.ifCond .ge 8, 3) := by decide +kernel
theorem dX1_commonOf_11 : decode cX1_commonOf 11 = .ok (.lload_n 0, 1) := by decide +kernel
theorem dX1_commonOf_6 : decode cX1_commonOf 6 = .ok (.lload_n 0, 1) := by decide +kernel
theorem dX1_commonOf_7 : decode cX1_commonOf 7 = .ok (.lneg, 1) := by decide +kernel
theorem dX1_commonOf_8 : decode cX1_commonOf 8 = .ok (.goto 4, 3) := by decide +kernel
theorem dX1_make_0 : decode cX1_make 0 = .ok (.lload_n 1, 1) := by decide +kernel
theorem dX1_make_1 : decode cX1_make 1 = .ok (.lload_n 3, 1) := by decide +kernel
theorem dX1_make_2 : decode cX1_make 2 = .ok (.invokestatic 13, 3) := by decide +kernel
theorem dX1_make_5 : decode cX1_make 5 = .ok (.lstore 5, 2) := by decide +kernel
theorem dX1_make_7 : decode cX1_make 7 = .ok (.lload_n 3, 1) := by decide +kernel
theorem dX1_make_8 : decode cX1_make 8 = .ok (.lconst 0, 1) := by decide +kernel
theorem dX1_make_9 : decode cX1_make 9 = .ok (.lcmp, 1) := by decide +kernel
theorem dX1_make_10 : decode cX1_make 10 = .ok (.ifCond .le 10, 3) := by decide +kernel
theorem dX1_make_20 : decode cX1_make 20 = .ok (.aload_n 0, 1) := by decide +kernel
theorem dX1_make_21 : decode cX1_make 21 = .ok (.lconst 0, 1) := by decide +kernel
theorem dX1_make_22 : decode cX1_make 22 = .ok (.putfield 17, 3) := by decide +kernel
theorem dX1_make_25 : decode cX1_make 25 = .ok (.aload_n 0, 1) := by decide +kernel
theorem dX1_make_26 : decode cX1_make 26 = .ok (.lconst 1, 1) := by decide +kernel
theorem dX1_make_27 : decode cX1_make 27 = .ok (.putfield 7, 3) := by decide +kernel
theorem dX1_make_30 : decode cX1_make 30 = .ok (.return_, 1) := by decide +kernel
theorem dX1_make_13 : decode cX1_make 13 = .ok (.lload 5, 2) := by decide +kernel
theorem dX1_make_15 : decode cX1_make 15 = .ok (.lconst 0, 1) := by decide +kernel
theorem dX1_make_16 : decode cX1_make 16 = .ok (.lcmp, 1) := by decide +kernel
theorem dX1_make_17 : decode cX1_make 17 = .ok (.ifCond .gt 14, 3) := by decide +kernel
theorem dX1_make_31 : decode cX1_make 31 = .ok (.aload_n 0, 1) := by decide +kernel
theorem dX1_make_32 : decode cX1_make 32 = .ok (.lload_n 1, 1) := by decide +kernel
theorem dX1_make_33 : decode cX1_make 33 = .ok (.lload 5, 2) := by decide +kernel
theorem dX1_make_35 : decode cX1_make 35 = .ok (.ldiv, 1) := by decide +kernel
theorem dX1_make_36 : decode cX1_make 36 = .ok (.putfield 17, 3) := by decide +kernel
theorem dX1_make_39 : decode cX1_make 39 = .ok (.aload_n 0, 1) := by decide +kernel
theorem dX1_make_40 : decode cX1_make 40 = .ok (.lload_n 3, 1) := by decide +kernel
theorem dX1_make_41 : decode cX1_make 41 = .ok (.lload 5, 2) := by decide +kernel
theorem dX1_make_43 : decode cX1_make 43 = .ok (.ldiv, 1) := by decide +kernel
theorem dX1_make_44 : decode cX1_make 44 = .ok (.putfield 7, 3) := by decide +kernel
theorem dX1_make_47 : decode cX1_make 47 = .ok (.return_, 1) := by decide +kernel
theorem dX1_add_0 : decode cX1_add 0 = .ok (.aload_n 0, 1) := by decide +kernel
theorem dX1_add_1 : decode cX1_add 1 = .ok (.getfield 7, 3) := by decide +kernel
theorem dX1_add_4 : decode cX1_add 4 = .ok (.lload_n 3, 1) := by decide +kernel
theorem dX1_add_5 : decode cX1_add 5 = .ok (.invokestatic 13, 3) := by decide +kernel
theorem dX1_add_8 : decode cX1_add 8 = .ok (.lstore 5, 2) := by decide +kernel
theorem dX1_add_10 : decode cX1_add 10 = .ok (.lload 5, 2) := by decide +kernel
theorem dX1_add_12 : decode cX1_add 12 = .ok (.lconst 0, 1) := by decide +kernel
theorem dX1_add_13 : decode cX1_add 13 = .ok (.lcmp, 1) := by decide +kernel
theorem dX1_add_14 : decode cX1_add 14 = .ok (.ifCond .le 35, 3) := by decide +kernel
theorem dX1_add_49 : decode cX1_add 49 = .ok (.return_, 1) := by decide +kernel
theorem dX1_add_17 : decode cX1_add 17 = .ok (.aload_n 0, 1) := by decide +kernel
theorem dX1_add_18 : decode cX1_add 18 = .ok (.aload_n 0, 1) := by decide +kernel
theorem dX1_add_19 : decode cX1_add 19 = .ok (.getfield 17, 3) := by decide +kernel
theorem dX1_add_22 : decode cX1_add 22 = .ok (.lload_n 3, 1) := by decide +kernel
theorem dX1_add_23 : decode cX1_add 23 = .ok (.lload 5, 2) := by decide +kernel
theorem dX1_add_25 : decode cX1_add 25 = .ok (.ldiv, 1) := by decide +kernel
theorem dX1_add_26 : decode cX1_add 26 = .ok (.lmul, 1) := by decide +kernel
theorem dX1_add_27 : decode cX1_add 27 = .ok (.lload_n 1, 1) := by decide +kernel
theorem dX1_add_28 : decode cX1_add 28 = .ok (.aload_n 0, 1) := by decide +kernel
theorem dX1_add_29 : decode cX1_add 29 = .ok (.getfield 7, 3) := by decide +kernel
theorem dX1_add_32 : decode cX1_add 32 = .ok (.lload 5, 2) := by decide +kernel
theorem dX1_add_34 : decode cX1_add 34 = .ok (.ldiv, 1) := by decide +kernel
theorem dX1_add_35 : decode cX1_add 35 = .ok (.lmul, 1) := by decide +kernel
theorem dX1_add_36 : decode cX1_add 36 = .ok (.ladd, 1) := by decide +kernel
theorem dX1_add_37 : decode cX1_add 37 = .ok (.aload_n 0, 1) := by decide +kernel
theorem dX1_add_38 : decode cX1_add 38 = .ok (.getfield 7, 3) := by decide +kernel
theorem dX1_add_41 : decode cX1_add 41 = .ok (.lload 5, 2) := by decide +kernel
theorem dX1_add_43 : decode cX1_add 43 = .ok (.ldiv, 1) := by decide +kernel
theorem dX1_add_44 : decode cX1_add 44 = .ok (.lload_n 3, 1) := by decide +kernel
theorem dX1_add_45 : decode cX1_add 45 = .ok (.lmul, 1) := by decide +kernel
theorem dX1_add_46 : decode cX1_add 46 = .ok (.invokevirtual 20, 3) := by decide +kernel
theorem dX1_isBelow_0 : decode cX1_isBelow 0 = .ok (.aload_n 0, 1) := by decide +kernel
theorem dX1_isBelow_1 : decode cX1_isBelow 1 = .ok (.getfield 17, 3) := by decide +kernel
theorem dX1_isBelow_4 : decode cX1_isBelow 4 = .ok (.lload_n 3, 1) := by decide +kernel
theorem dX1_isBelow_5 : decode cX1_isBelow 5 = .ok (.lmul, 1) := by decide +kernel
theorem dX1_isBelow_6 : decode cX1_isBelow 6 = .ok (.lload_n 1, 1) := by decide +kernel
theorem dX1_isBelow_7 : decode cX1_isBelow 7 = .ok (.aload_n 0, 1) := by decide +kernel
theorem dX1_isBelow_8 : decode cX1_isBelow 8 = .ok (.getfield 7, 3) := by decide +kernel
theorem dX1_isBelow_11 : decode cX1_isBelow 11 = .ok (.lmul, 1) := by decide +kernel
theorem dX1_isBelow_12 : decode cX1_isBelow 12 = .ok (.lcmp, 1) := by decide +kernel
theorem dX1_isBelow_13 : decode cX1_isBelow 13 = .ok (.ifCond .ge 7, 3) := by decide +kernel
theorem dX1_isBelow_20 : decode cX1_isBelow 20 = .ok (.iconst 0, 1) := by decide +kernel
theorem dX1_isBelow_21 : decode cX1_isBelow 21 = .ok (.ireturn, 1) := by decide +kernel
theorem dX1_isBelow_16 : decode cX1_isBelow 16 = .ok (.iconst 1, 1) := by decide +kernel
theorem dX1_isBelow_17 : decode cX1_isBelow 17 = .ok (.goto 4, 3) := by decide +kernel
theorem dX1_partOf_0 : decode cX1_partOf 0 = .ok (.iload_n 1, 1) := by decide +kernel
theorem dX1_partOf_1 : decode cX1_partOf 1 = .ok (.ifCond .ne 10, 3) := by decide +kernel
theorem dX1_partOf_11 : decode cX1_partOf 11 = .ok (.aload_n 0, 1) := by decide +kernel
theorem dX1_partOf_12 : decode cX1_partOf 12 = .ok (.getfield 7, 3) := by decide +kernel
theorem dX1_partOf_15 : decode cX1_partOf 15 = .ok (.lreturn, 1) := by decide +kernel
theorem dX1_partOf_4 : decode cX1_partOf 4 = .ok (.aload_n 0, 1) := by decide +kernel
theorem dX1_partOf_5 : decode cX1_partOf 5 = .ok (.getfield 17, 3) := by decide +kernel
theorem dX1_partOf_8 : decode cX1_partOf 8 = .ok (.goto 7, 3) := by decide +kernel
set_option maxHeartbeats 4000000 in
set_option maxRecDepth 100000 in
theorem c_X2_get (l : Launch) (g : GG) (a0 : Nat → Nat) (n0 : Nat) (s0 : T2) (p1 : Int32) (hne : (m_X2_get n0 s0 p1) ≠ none) : Ct l g yX2_get cX2_get 2 (some .int) ({ frames := 0, cells := 0, slots := 0, locals := 0 } : Room) [.ref (a0 0), .int p1] (wX2 a0 g n0 s0) (Qi g .int (m_X2_get n0 s0 p1) (fun u => u) (fun u => wX2 a0 g n0 s0)) 0 0 := by
  obtain ⟨out, hf⟩ := ne_ex hne
  have hf0 := hf
  refine Ct.of (own := RX2) (by decide +kernel) rfl (Nat.le_of_ble_eq_true rfl) ?_
  intro p e s m below meth c hx hb hr hml hown hts hlocks hin hK A H locs hA hP hD hS ls hl
  have hl : lv_has ls 2 [(0, .ref (a0 0)), (1, .int p1)] := hl
  unfold m_X2_get at hf
  refine lv_iload_n hx hb dX2_get_0 rfl (lv_at hl 1 rfl) ?_
  refine lv_if_lt (tgt := 22) hx hb dX2_get_1 (by decide) (fun cb => ?_) (fun cb => ?_)
  · have hf := it_t cb hf
    refine lv_iconst (v := 0) hx hb dX2_get_22 (by decide) ?_
    exact retI (u := (0 : Int32)) hx hb hr hlocks hS hP hD (hf0.trans hf.symm) rfl rfl dX2_get_23
  have hf := it_f cb hf
  refine lv_iload_n hx hb dX2_get_4 rfl (lv_at hl 1 rfl) ?_
  refine lv_aload_n hx hb dX2_get_5 rfl (lv_at hl 0 rfl) ?_
  refine va_get (D := g.1) (ci := 3) (v := .ref (a0 1)) (C := RX2) (T := TX2) (N := 1) hx hb hts layX2 hown hK.1 hP 0 rfl rfl 0 (by decide) (hts _ kw45) (fun _ h9 => h9) rfl dX2_get_6 ?_
  refine va_alen (v := (nI n0)) hx hb hK.1 hP 1 0 rfl rfl (by rfl) dX2_get_9 ?_
  refine lv_icmp_ge (tgt := 22) hx hb dX2_get_10 (by decide) (fun cb => ?_) (fun cb => ?_)
  · have hf := it_t cb hf
    refine lv_iconst (v := 0) hx hb dX2_get_22 (by decide) ?_
    exact retI (u := (0 : Int32)) hx hb hr hlocks hS hP hD (hf0.trans hf.symm) rfl rfl dX2_get_23
  have hf := it_f cb hf
  refine lv_aload_n hx hb dX2_get_13 rfl (lv_at hl 0 rfl) ?_
  refine va_get (D := g.1) (ci := 3) (v := .ref (a0 1)) (C := RX2) (T := TX2) (N := 1) hx hb hts layX2 hown hK.1 hP 0 rfl rfl 0 (by decide) (hts _ kw45) (fun _ h9 => h9) rfl dX2_get_14 ?_
  refine lv_iload_n hx hb dX2_get_17 rfl (lv_at hl 1 rfl) ?_
  have hi := it_n hf
  have hf := it_t hi hf
  refine va_iald hx hb hK.1 hP 1 0 rfl rfl (inb_in hi) dX2_get_18 ?_
  refine lv_goto (tgt := 23) hx hb dX2_get_19 (by decide) ?_
  exact retI (u := (s0 p1.toNatClampNeg)) hx hb hr hlocks hS hP hD (hf0.trans hf.symm) rfl rfl dX2_get_23
set_option maxHeartbeats 4000000 in
set_option maxRecDepth 100000 in
theorem c_X2_set (l : Launch) (g : GG) (a0 : Nat → Nat) (n0 : Nat) (s0 : T2) (p1 : Int32) (p2 : Int32) (hne : (m_X2_set n0 s0 p1 p2) ≠ none) : Ct l g yX2_set cX2_set 3 none ({ frames := 0, cells := 0, slots := 0, locals := 0 } : Room) [.ref (a0 0), .int p1, .int p2] (wX2 a0 g n0 s0) (Qv g (m_X2_set n0 s0 p1 p2) (fun u => wX2 a0 g n0 u)) 0 0 := by
  obtain ⟨out, hf⟩ := ne_ex hne
  have hf0 := hf
  refine Ct.of (own := RX2) (by decide +kernel) rfl (Nat.le_of_ble_eq_true rfl) ?_
  intro p e s m below meth c hx hb hr hml hown hts hlocks hin hK A H locs hA hP hD hS ls hl
  have hl : lv_has ls 3 [(0, .ref (a0 0)), (1, .int p1), (2, .int p2)] := hl
  unfold m_X2_set at hf
  refine lv_iload_n hx hb dX2_set_0 rfl (lv_at hl 1 rfl) ?_
  refine lv_if_lt (tgt := 20) hx hb dX2_set_1 (by decide) (fun cb => ?_) (fun cb => ?_)
  · have hf := it_t cb hf
    exact retV (u := s0) hx hb hr hlocks hS hP hD (hf0.trans hf.symm) dX2_set_20
  have hf := it_f cb hf
  refine lv_iload_n hx hb dX2_set_4 rfl (lv_at hl 1 rfl) ?_
  refine lv_aload_n hx hb dX2_set_5 rfl (lv_at hl 0 rfl) ?_
  refine va_get (D := g.1) (ci := 3) (v := .ref (a0 1)) (C := RX2) (T := TX2) (N := 1) hx hb hts layX2 hown hK.1 hP 0 rfl rfl 0 (by decide) (hts _ kw45) (fun _ h9 => h9) rfl dX2_set_6 ?_
  refine va_alen (v := (nI n0)) hx hb hK.1 hP 1 0 rfl rfl (by rfl) dX2_set_9 ?_
  refine lv_icmp_ge (tgt := 20) hx hb dX2_set_10 (by decide) (fun cb => ?_) (fun cb => ?_)
  · have hf := it_t cb hf
    exact retV (u := s0) hx hb hr hlocks hS hP hD (hf0.trans hf.symm) dX2_set_20
  have hf := it_f cb hf
  refine lv_aload_n hx hb dX2_set_13 rfl (lv_at hl 0 rfl) ?_
  refine va_get (D := g.1) (ci := 3) (v := .ref (a0 1)) (C := RX2) (T := TX2) (N := 1) hx hb hts layX2 hown hK.1 hP 0 rfl rfl 0 (by decide) (hts _ kw45) (fun _ h9 => h9) rfl dX2_set_14 ?_
  refine lv_iload_n hx hb dX2_set_17 rfl (lv_at hl 1 rfl) ?_
  refine lv_iload_n hx hb dX2_set_18 rfl (lv_at hl 2 rfl) ?_
  have hi := it_n hf
  have hf := it_t hi hf
  refine va_iast hx hb hK.1 hP hD hS 1 0 rfl rfl (inb_in hi) dX2_set_19 (fun H locs hP hD hS => ?_)
  have hP : va_P g.1 vwCl (wX2 a0 g n0 (upd s0 p1.toNatClampNeg p2)) H := hP
  have hD : va_D A (wX2 a0 g n0 (upd s0 p1.toNatClampNeg p2)) := hD
  exact retV (u := (upd s0 p1.toNatClampNeg p2)) hx hb hr hlocks hS hP hD (hf0.trans hf.symm) dX2_set_20
set_option maxHeartbeats 4000000 in
set_option maxRecDepth 100000 in
theorem c_X2_add (l : Launch) (g : GG) (a0 : Nat → Nat) (n0 : Nat) (s0 : T2) (p1 : Int32) (p2 : Int32) (hne : (m_X2_add n0 s0 p1 p2) ≠ none) : Ct l g yX2_add cX2_add 3 none ({ frames := 1, cells := 0, slots := 0, locals := 22 } : Room) [.ref (a0 0), .int p1, .int p2] (wX2 a0 g n0 s0) (Qv g (m_X2_add n0 s0 p1 p2) (fun u => wX2 a0 g n0 u)) 0 0 := by
  obtain ⟨out, hf⟩ := ne_ex hne
  have hf0 := hf
  refine Ct.of (own := RX2) (by decide +kernel) rfl (Nat.le_of_ble_eq_true rfl) ?_
  intro p e s m below meth c hx hb hr hml hown hts hlocks hin hK A H locs hA hP hD hS ls hl
  have hl : lv_has ls 3 [(0, .ref (a0 0)), (1, .int p1), (2, .int p2)] := hl
  unfold m_X2_add at hf
  refine lv_aload_n hx hb dX2_add_0 rfl (lv_at hl 0 rfl) ?_
  refine lv_iload_n hx hb dX2_add_1 rfl (lv_at hl 1 rfl) ?_
  refine lv_aload_n hx hb dX2_add_2 rfl (lv_at hl 0 rfl) ?_
  refine lv_iload_n hx hb dX2_add_3 rfl (lv_at hl 1 rfl) ?_
  refine cIp hP hD hS hA (fun hPc hDc => rV (As := [.int p1]) (rest := [.int p1, .ref (a0 0)]) hx hb hml hown hts hK (c_X2_get l g a0 n0 s0 p1 (bnd_ne hf)) svV_X2_get kw384 rfl rfl hPc hDc rfl rfl hl.1 (Nat.le_of_ble_eq_true rfl) dX2_add_4 ⟨Nat.le_of_ble_eq_true rfl, Nat.le_of_ble_eq_true rfl, rfl, rfl, Nat.le_of_ble_eq_true rfl, Nat.le_of_ble_eq_true rfl⟩) [(0, 2)] rfl rfl rfl (fun x1 H locs ex1 nx1 hP hS => ?_)
  have hf := bnd_of hf ex1
  refine lv_iload_n hx hb dX2_add_7 rfl (lv_at hl 2 rfl) ?_
  refine lv_iadd hx hb dX2_add_8 ?_
  refine cV hP hD hS hA (fun hPc hDc => rV (As := [.int p1, .int (x1 + p2)]) (rest := []) hx hb hml hown hts hK (c_X2_set l g a0 n0 s0 p1 (x1 + p2) (bnd_ne hf)) svV_X2_set kw462 rfl rfl hPc hDc rfl rfl hl.1 (Nat.le_of_ble_eq_true rfl) dX2_add_9 ⟨Nat.le_of_ble_eq_true rfl, Nat.le_of_ble_eq_true rfl, rfl, rfl, Nat.le_of_ble_eq_true rfl, Nat.le_of_ble_eq_true rfl⟩) [(0, 2)] rfl rfl rfl (fun _ => rfl) (fun x2 H locs ex2 hP hD hS => ?_)
  have hf := bnd_of hf ex2
  have hP : va_P g.1 vwCl (wX2 a0 g n0 x2) H := hP
  have hD : va_D A (wX2 a0 g n0 x2) := hD
  exact retV (u := x2) hx hb hr hlocks hS hP hD (hf0.trans hf.symm) dX2_add_12
set_option maxHeartbeats 4000000 in
set_option maxRecDepth 100000 in
theorem c_X2_removeAt (l : Launch) (g : GG) (a0 : Nat → Nat) (n0 : Nat) (s0 : T2) (p1 : Int32) (hne : (m_X2_removeAt n0 s0 p1) ≠ none) : Ct l g yX2_removeAt cX2_removeAt 3 none ({ frames := 1, cells := 0, slots := 0, locals := 22 } : Room) [.ref (a0 0), .int p1] (wX2 a0 g n0 s0) (Qv g (m_X2_removeAt n0 s0 p1) (fun u => wX2 a0 g n0 u)) 0 0 := by
  obtain ⟨out, hf⟩ := ne_ex hne
  have hf0 := hf
  refine Ct.of (own := RX2) (by decide +kernel) rfl (Nat.le_of_ble_eq_true rfl) ?_
  intro p e s m below meth c hx hb hr hml hown hts hlocks hin hK A H locs hA hP hD hS ls hl
  have hl : lv_has ls 3 [(0, .ref (a0 0)), (1, .int p1)] := hl
  unfold m_X2_removeAt at hf
  refine lv_iload_n hx hb dX2_removeAt_0 rfl (lv_at hl 1 rfl) ?_
  refine lv_istore_n (lv' := [(2, .int p1), (0, .ref (a0 0)), (1, .int p1)]) hx hb dX2_removeAt_1 rfl hl (by decide) rfl (fun ls hl => ?_)
  obtain ⟨r7, er7, hf⟩ := bnd hf
  refine lp_W (P := fun z => ∀ (H : Heap) (locs : List Loc) (ls : Array Slot), va_P g.1 vwCl (wX2 a0 g n0 z.2) H → va_D A (wX2 a0 g n0 z.2) → va_S A s.heap H locs → lv_has ls 3 [(0, .ref (a0 0)), (2, .int z.1)] → W p l e { frames := 1, cells := 0, slots := 0, locals := 22 } s m [.ref (a0 0), .int p1].toArray below meth c H locs 0 0 (MQ below (Qv g (m_X2_removeAt n0 s0 p1) (fun u => wX2 a0 g n0 u) A) [.ref (a0 0), .int p1].toArray s 0 0 A) (F0 m 2 ls [])) (E := fun r7 => ∀ (H : Heap) (locs : List Loc) (ls : Array Slot), va_P g.1 vwCl (wX2 a0 g n0 r7) H → va_D A (wX2 a0 g n0 r7) → va_S A s.heap H locs → lv_has ls 3 [] → W p l e { frames := 1, cells := 0, slots := 0, locals := 22 } s m [.ref (a0 0), .int p1].toArray below meth c H locs 0 0 (MQ below (Qv g (m_X2_removeAt n0 s0 p1) (fun u => wX2 a0 g n0 u) A) [.ref (a0 0), .int p1].toArray s 0 0 A) (F0 m 29 ls [])) ?_ fu _ r7 er7 ?_ _ _ _ hP hD hS (lv_sub hl [1, 0] rfl)
  · rintro ⟨x3, x4⟩ y hf hB hE H locs ls hP hD hS hl
    have hP : va_P g.1 vwCl (wX2 a0 g n0 x4) H := hP
    have hD : va_D A (wX2 a0 g n0 x4) := hD
    have hl : lv_has ls 3 [(0, .ref (a0 0)), (2, .int x3)] := hl
    have hf : m_X2_removeAt_l2 n0 x3 x4 = some y := hf
    unfold m_X2_removeAt_l2 at hf
    refine lv_iload_n hx hb dX2_removeAt_2 rfl (lv_at hl 1 rfl) ?_
    refine lv_aload_n hx hb dX2_removeAt_3 rfl (lv_at hl 0 rfl) ?_
    refine va_get (D := g.1) (ci := 3) (v := .ref (a0 1)) (C := RX2) (T := TX2) (N := 1) hx hb hts layX2 hown hK.1 hP 0 rfl rfl 0 (by decide) (hts _ kw45) (fun _ h9 => h9) rfl dX2_removeAt_4 ?_
    refine va_alen (v := (nI n0)) hx hb hK.1 hP 1 0 rfl rfl (by rfl) dX2_removeAt_7 ?_
    refine lv_icmp_ge (tgt := 29) hx hb dX2_removeAt_8 (by decide) (fun cb => ?_) (fun cb => ?_)
    · have hf := it_t cb hf
      exact hE _ (Option.some.inj hf).symm _ _ _ hP hD hS (lv_sub hl [] rfl)
    have hf := it_f cb hf
    refine lv_aload_n hx hb dX2_removeAt_11 rfl (lv_at hl 0 rfl) ?_
    refine lv_iload_n hx hb dX2_removeAt_12 rfl (lv_at hl 1 rfl) ?_
    refine lv_aload_n hx hb dX2_removeAt_13 rfl (lv_at hl 0 rfl) ?_
    refine lv_iload_n hx hb dX2_removeAt_14 rfl (lv_at hl 1 rfl) ?_
    refine lv_iconst (v := 1) hx hb dX2_removeAt_15 (by decide) ?_
    refine lv_iadd hx hb dX2_removeAt_16 ?_
    refine cIp hP hD hS hA (fun hPc hDc => rV (As := [.int (x3 + (1 : Int32))]) (rest := [.int x3, .ref (a0 0)]) hx hb hml hown hts hK (c_X2_get l g a0 n0 x4 (x3 + (1 : Int32)) (bnd_ne hf)) svV_X2_get kw384 rfl rfl hPc hDc rfl rfl hl.1 (Nat.le_of_ble_eq_true rfl) dX2_removeAt_17 ⟨Nat.le_of_ble_eq_true rfl, Nat.le_of_ble_eq_true rfl, rfl, rfl, Nat.le_of_ble_eq_true rfl, Nat.le_of_ble_eq_true rfl⟩) [(0, 2)] rfl rfl rfl (fun x5 H locs ex5 nx5 hP hS => ?_)
    have hf := bnd_of hf ex5
    refine cV hP hD hS hA (fun hPc hDc => rV (As := [.int x3, .int x5]) (rest := []) hx hb hml hown hts hK (c_X2_set l g a0 n0 x4 x3 x5 (bnd_ne hf)) svV_X2_set kw462 rfl rfl hPc hDc rfl rfl hl.1 (Nat.le_of_ble_eq_true rfl) dX2_removeAt_20 ⟨Nat.le_of_ble_eq_true rfl, Nat.le_of_ble_eq_true rfl, rfl, rfl, Nat.le_of_ble_eq_true rfl, Nat.le_of_ble_eq_true rfl⟩) [(0, 2)] rfl rfl rfl (fun _ => rfl) (fun x6 H locs ex6 hP hD hS => ?_)
    have hf := bnd_of hf ex6
    have hP : va_P g.1 vwCl (wX2 a0 g n0 x6) H := hP
    have hD : va_D A (wX2 a0 g n0 x6) := hD
    refine lv_iinc (v := (x3 + 1)) (lv' := [(2, .int (x3 + 1)), (0, .ref (a0 0))]) hx hb dX2_removeAt_23 hl (k := 1) rfl (by rfl) (by decide) rfl (fun ls hl => ?_)
    refine lv_goto (tgt := 2) hx hb dX2_removeAt_26 (by decide) ?_
    exact hB _ (Option.some.inj hf).symm _ _ _ hP hD hS (lv_sub hl [1, 0] rfl)
  intro H locs ls hP hD hS hl
  have hP : va_P g.1 vwCl (wX2 a0 g n0 r7) H := hP
  have hD : va_D A (wX2 a0 g n0 r7) := hD
  have hl : lv_has ls 3 [] := hl
  exact retV (u := r7) hx hb hr hlocks hS hP hD (hf0.trans hf.symm) dX2_removeAt_29
set_option maxHeartbeats 4000000 in
set_option maxRecDepth 100000 in
theorem c_X2_copyFrom (l : Launch) (g : GG) (a0 : Nat → Nat) (n0 : Nat) (s0 : T2) (a1 : Nat → Nat) (n1 : Nat) (s1 : T2) (hne : (m_X2_copyFrom n0 s0 n1 s1) ≠ none) : Ct l g yX2_copyFrom cX2_copyFrom 3 none ({ frames := 1, cells := 0, slots := 0, locals := 21 } : Room) [.ref (a0 0), .ref (a1 0)] (wX2 a0 g n0 s0 ++ wX2 a1 g n1 s1) (Qv g (m_X2_copyFrom n0 s0 n1 s1) (fun u => wX2 a0 g n0 u ++ wX2 a1 g n1 s1)) 0 0 := by
  obtain ⟨out, hf⟩ := ne_ex hne
  have hf0 := hf
  refine Ct.of (own := RX2) (by decide +kernel) rfl (Nat.le_of_ble_eq_true rfl) ?_
  intro p e s m below meth c hx hb hr hml hown hts hlocks hin hK A H locs hA hP hD hS ls hl
  have hl : lv_has ls 3 [(0, .ref (a0 0)), (1, .ref (a1 0))] := hl
  unfold m_X2_copyFrom at hf
  refine lv_iconst (v := 0) hx hb dX2_copyFrom_0 (by decide) ?_
  refine lv_istore_n (lv' := [(2, .int (0 : Int32)), (0, .ref (a0 0)), (1, .ref (a1 0))]) hx hb dX2_copyFrom_1 rfl hl (by decide) rfl (fun ls hl => ?_)
  obtain ⟨r5, er5, hf⟩ := bnd hf
  refine lp_W (P := fun z => ∀ (H : Heap) (locs : List Loc) (ls : Array Slot), va_P g.1 vwCl (wX2 a0 g n0 z.2 ++ wX2 a1 g n1 s1) H → va_D A (wX2 a0 g n0 z.2 ++ wX2 a1 g n1 s1) → va_S A s.heap H locs → lv_has ls 3 [(0, .ref (a0 0)), (1, .ref (a1 0)), (2, .int z.1)] → W p l e { frames := 1, cells := 0, slots := 0, locals := 21 } s m [.ref (a0 0), .ref (a1 0)].toArray below meth c H locs 0 0 (MQ below (Qv g (m_X2_copyFrom n0 s0 n1 s1) (fun u => wX2 a0 g n0 u ++ wX2 a1 g n1 s1) A) [.ref (a0 0), .ref (a1 0)].toArray s 0 0 A) (F0 m 2 ls [])) (E := fun r5 => ∀ (H : Heap) (locs : List Loc) (ls : Array Slot), va_P g.1 vwCl (wX2 a0 g n0 r5 ++ wX2 a1 g n1 s1) H → va_D A (wX2 a0 g n0 r5 ++ wX2 a1 g n1 s1) → va_S A s.heap H locs → lv_has ls 3 [] → W p l e { frames := 1, cells := 0, slots := 0, locals := 21 } s m [.ref (a0 0), .ref (a1 0)].toArray below meth c H locs 0 0 (MQ below (Qv g (m_X2_copyFrom n0 s0 n1 s1) (fun u => wX2 a0 g n0 u ++ wX2 a1 g n1 s1) A) [.ref (a0 0), .ref (a1 0)].toArray s 0 0 A) (F0 m 28 ls [])) ?_ fu _ r5 er5 ?_ _ _ _ hP hD hS (lv_sub hl [1, 2, 0] rfl)
  · rintro ⟨x2, x3⟩ y hf hB hE H locs ls hP hD hS hl
    have hP : va_P g.1 vwCl (wX2 a0 g n0 x3 ++ wX2 a1 g n1 s1) H := hP
    have hD : va_D A (wX2 a0 g n0 x3 ++ wX2 a1 g n1 s1) := hD
    have hl : lv_has ls 3 [(0, .ref (a0 0)), (1, .ref (a1 0)), (2, .int x2)] := hl
    have hf : m_X2_copyFrom_l2 n0 n1 s1 x2 x3 = some y := hf
    unfold m_X2_copyFrom_l2 at hf
    refine lv_iload_n hx hb dX2_copyFrom_2 rfl (lv_at hl 2 rfl) ?_
    refine lv_aload_n hx hb dX2_copyFrom_3 rfl (lv_at hl 0 rfl) ?_
    refine va_get (D := g.1) (ci := 3) (v := .ref (a0 1)) (C := RX2) (T := TX2) (N := 1) hx hb hts layX2 hown hK.1 hP 0 rfl rfl 0 (by decide) (hts _ kw45) (fun _ h9 => h9) rfl dX2_copyFrom_4 ?_
    refine va_alen (v := (nI n0)) hx hb hK.1 hP 1 0 rfl rfl (by rfl) dX2_copyFrom_7 ?_
    refine lv_icmp_ge (tgt := 28) hx hb dX2_copyFrom_8 (by decide) (fun cb => ?_) (fun cb => ?_)
    · have hf := it_t cb hf
      exact hE _ (Option.some.inj hf).symm _ _ _ hP hD hS (lv_sub hl [] rfl)
    have hf := it_f cb hf
    refine lv_aload_n hx hb dX2_copyFrom_11 rfl (lv_at hl 0 rfl) ?_
    refine va_get (D := g.1) (ci := 3) (v := .ref (a0 1)) (C := RX2) (T := TX2) (N := 1) hx hb hts layX2 hown hK.1 hP 0 rfl rfl 0 (by decide) (hts _ kw45) (fun _ h9 => h9) rfl dX2_copyFrom_12 ?_
    refine lv_iload_n hx hb dX2_copyFrom_15 rfl (lv_at hl 2 rfl) ?_
    refine lv_aload_n hx hb dX2_copyFrom_16 rfl (lv_at hl 1 rfl) ?_
    refine lv_iload_n hx hb dX2_copyFrom_17 rfl (lv_at hl 2 rfl) ?_
    refine cIp hP hD hS hA (fun hPc hDc => rV (As := [.int x2]) (rest := [.int x2, .ref (a0 1)]) hx hb hml hown hts hK (c_X2_get l g a1 n1 s1 x2 (bnd_ne hf)) svV_X2_get kw384 rfl rfl hPc hDc rfl rfl hl.1 (Nat.le_of_ble_eq_true rfl) dX2_copyFrom_18 ⟨Nat.le_of_ble_eq_true rfl, Nat.le_of_ble_eq_true rfl, rfl, rfl, Nat.le_of_ble_eq_true rfl, Nat.le_of_ble_eq_true rfl⟩) [(2, 2)] rfl rfl rfl (fun x4 H locs ex4 nx4 hP hS => ?_)
    have hf := bnd_of hf ex4
    have hi := it_n hf
    have hf := it_t hi hf
    refine va_iast hx hb hK.1 hP hD hS 1 0 rfl rfl (inb_in hi) dX2_copyFrom_21 (fun H locs hP hD hS => ?_)
    have hP : va_P g.1 vwCl (wX2 a0 g n0 (upd x3 x2.toNatClampNeg x4) ++ wX2 a1 g n1 s1) H := hP
    have hD : va_D A (wX2 a0 g n0 (upd x3 x2.toNatClampNeg x4) ++ wX2 a1 g n1 s1) := hD
    refine lv_iinc (v := (x2 + 1)) (lv' := [(2, .int (x2 + 1)), (0, .ref (a0 0)), (1, .ref (a1 0))]) hx hb dX2_copyFrom_22 hl (k := 2) rfl (by rfl) (by decide) rfl (fun ls hl => ?_)
    refine lv_goto (tgt := 2) hx hb dX2_copyFrom_25 (by decide) ?_
    exact hB _ (Option.some.inj hf).symm _ _ _ hP hD hS (lv_sub hl [1, 2, 0] rfl)
  intro H locs ls hP hD hS hl
  have hP : va_P g.1 vwCl (wX2 a0 g n0 r5 ++ wX2 a1 g n1 s1) H := hP
  have hD : va_D A (wX2 a0 g n0 r5 ++ wX2 a1 g n1 s1) := hD
  have hl : lv_has ls 3 [] := hl
  exact retV (u := r5) hx hb hr hlocks hS hP hD (hf0.trans hf.symm) dX2_copyFrom_28
set_option maxHeartbeats 4000000 in
set_option maxRecDepth 100000 in
theorem c_X1_commonOf (l : Launch) (g : GG) (p0 : Int64) (p2 : Int64) (hne : (m_X1_commonOf p0 p2) ≠ none) : Ct l g yX1_commonOf cX1_commonOf 11 (some .long) ({ frames := 0, cells := 0, slots := 0, locals := 0 } : Room) [.long p0, .long p2] (([] : va_W)) (Ql g (m_X1_commonOf p0 p2) (fun u => u) (fun u => ([] : va_W))) 0 0 := by
  obtain ⟨out, hf⟩ := ne_ex hne
  have hf0 := hf
  refine Ct.of (own := RX1) (by decide +kernel) rfl (Nat.le_of_ble_eq_true rfl) ?_
  intro p e s m below meth c hx hb hr hml hown hts hlocks hin hK A H locs hA hP hD hS ls hl
  have hl : lv_has ls 11 [(0, .long p0), (2, .long p2)] := hl
  unfold m_X1_commonOf at hf
  refine lv_lload_n hx hb dX1_commonOf_0 rfl (lv_at hl 0 rfl) ?_
  refine lv_lconst (v := 0) hx hb dX1_commonOf_1 (by decide) ?_
  obtain ⟨r1, er1, hf⟩ := bnd hf
  have K : ∀ (H : Heap) (locs : List Loc) (ls : Array Slot), va_P g.1 vwCl (([] : va_W)) H → va_D A (([] : va_W)) → va_S A s.heap H locs → lv_has ls 11 [(2, .long p2)] → W p l e { frames := 0, cells := 0, slots := 0, locals := 0 } s m [.long p0, .long p2].toArray below meth c H locs 0 0 (MQ below (Ql g (m_X1_commonOf p0 p2) (fun u => u) (fun u => ([] : va_W)) A) [.long p0, .long p2].toArray s 0 0 A) (F0 m 12 ls [.long r1]) := by
    intro H locs ls hP hD hS hl
    refine lv_lstore (lv' := [(4, .long r1), (2, .long p2)]) hx hb dX1_commonOf_12 hl (by decide) rfl (fun ls hl => ?_)
    refine lv_lload_n hx hb dX1_commonOf_14 rfl (lv_at hl 1 rfl) ?_
    refine lv_lconst (v := 0) hx hb dX1_commonOf_15 (by decide) ?_
    obtain ⟨r2, er2, hf⟩ := bnd hf
    have K : ∀ (H : Heap) (locs : List Loc) (ls : Array Slot), va_P g.1 vwCl (([] : va_W)) H → va_D A (([] : va_W)) → va_S A s.heap H locs → lv_has ls 11 [(4, .long r1)] → W p l e { frames := 0, cells := 0, slots := 0, locals := 0 } s m [.long p0, .long p2].toArray below meth c H locs 0 0 (MQ below (Ql g (m_X1_commonOf p0 p2) (fun u => u) (fun u => ([] : va_W)) A) [.long p0, .long p2].toArray s 0 0 A) (F0 m 26 ls [.long r2]) := by
      intro H locs ls hP hD hS hl
      refine lv_lstore (lv' := [(6, .long r2), (4, .long r1)]) hx hb dX1_commonOf_26 hl (by decide) rfl (fun ls hl => ?_)
      refine lv_iconst (v := 0) hx hb dX1_commonOf_28 (by decide) ?_
      refine lv_istore (lv' := [(8, .int (0 : Int32)), (6, .long r2), (4, .long r1)]) hx hb dX1_commonOf_29 hl (by decide) rfl (fun ls hl => ?_)
      obtain ⟨r6, er6, hf⟩ := bnd hf
      refine lp_W (P := fun z => ∀ (H : Heap) (locs : List Loc) (ls : Array Slot), va_P g.1 vwCl (([] : va_W)) H → va_D A (([] : va_W)) → va_S A s.heap H locs → lv_has ls 11 [(4, .long z.1), (6, .long z.2.1), (8, .int z.2.2)] → W p l e { frames := 0, cells := 0, slots := 0, locals := 0 } s m [.long p0, .long p2].toArray below meth c H locs 0 0 (MQ below (Ql g (m_X1_commonOf p0 p2) (fun u => u) (fun u => ([] : va_W)) A) [.long p0, .long p2].toArray s 0 0 A) (F0 m 31 ls [])) (E := fun r6 => ∀ (H : Heap) (locs : List Loc) (ls : Array Slot), va_P g.1 vwCl (([] : va_W)) H → va_D A (([] : va_W)) → va_S A s.heap H locs → lv_has ls 11 [(4, .long r6)] → W p l e { frames := 0, cells := 0, slots := 0, locals := 0 } s m [.long p0, .long p2].toArray below meth c H locs 0 0 (MQ below (Ql g (m_X1_commonOf p0 p2) (fun u => u) (fun u => ([] : va_W)) A) [.long p0, .long p2].toArray s 0 0 A) (F0 m 67 ls [])) ?_ fu _ r6 er6 ?_ _ _ _ hP hD hS (lv_sub hl [2, 1, 0] rfl)
      · rintro ⟨x3, x4, x5⟩ y hf hB hE H locs ls hP hD hS hl
        have hP : va_P g.1 vwCl (([] : va_W)) H := hP
        have hD : va_D A (([] : va_W)) := hD
        have hl : lv_has ls 11 [(4, .long x3), (6, .long x4), (8, .int x5)] := hl
        have hf : m_X1_commonOf_l31 x3 x4 x5 = some y := hf
        unfold m_X1_commonOf_l31 at hf
        refine lv_iload hx hb dX1_commonOf_31 (lv_at hl 2 rfl) ?_
        refine lv_sipush (v := 200) hx hb dX1_commonOf_33 (by decide) ?_
        refine lv_icmp_ge (tgt := 67) hx hb dX1_commonOf_36 (by decide) (fun cb => ?_) (fun cb => ?_)
        · have hf := it_t cb hf
          exact hE _ (Option.some.inj hf).symm _ _ _ hP hD hS (lv_sub hl [0] rfl)
        have hf := it_f cb hf
        refine lv_lload hx hb dX1_commonOf_39 (lv_at hl 1 rfl) ?_
        refine lv_lconst (v := 0) hx hb dX1_commonOf_41 (by decide) ?_
        refine lc_eq (tgt := 67) hx hb dX1_commonOf_42 dX1_commonOf_43 (by decide) (fun cb => ?_) (fun cb => ?_)
        · have hf := it_t cb hf
          exact hE _ (Option.some.inj hf).symm _ _ _ hP hD hS (lv_sub hl [0] rfl)
        have hf := it_f cb hf
        refine lv_lload hx hb dX1_commonOf_46 (lv_at hl 0 rfl) ?_
        refine lv_lload hx hb dX1_commonOf_48 (lv_at hl 1 rfl) ?_
        have hi := it_n hf
        have hf := it_t hi hf
        refine lv_lrem hx hb dX1_commonOf_50 hi ?_
        refine lv_lstore (lv' := [(9, .long (x3 - x3 / x4 * x4)), (4, .long x3), (6, .long x4), (8, .int x5)]) hx hb dX1_commonOf_51 hl (by decide) rfl (fun ls hl => ?_)
        refine lv_lload hx hb dX1_commonOf_53 (lv_at hl 2 rfl) ?_
        refine lv_lstore (lv' := [(4, .long x4), (9, .long (x3 - x3 / x4 * x4)), (6, .long x4), (8, .int x5)]) hx hb dX1_commonOf_55 hl (by decide) rfl (fun ls hl => ?_)
        refine lv_lload hx hb dX1_commonOf_57 (lv_at hl 1 rfl) ?_
        refine lv_lstore (lv' := [(6, .long (x3 - x3 / x4 * x4)), (4, .long x4), (9, .long (x3 - x3 / x4 * x4)), (8, .int x5)]) hx hb dX1_commonOf_59 hl (by decide) rfl (fun ls hl => ?_)
        refine lv_iinc (v := (x5 + 1)) (lv' := [(8, .int (x5 + 1)), (6, .long (x3 - x3 / x4 * x4)), (4, .long x4), (9, .long (x3 - x3 / x4 * x4))]) hx hb dX1_commonOf_61 hl (k := 3) rfl (by rfl) (by decide) rfl (fun ls hl => ?_)
        refine lv_goto (tgt := 31) hx hb dX1_commonOf_64 (by decide) ?_
        exact hB _ (Option.some.inj hf).symm _ _ _ hP hD hS (lv_sub hl [2, 1, 0] rfl)
      intro H locs ls hP hD hS hl
      have hP : va_P g.1 vwCl (([] : va_W)) H := hP
      have hD : va_D A (([] : va_W)) := hD
      have hl : lv_has ls 11 [(4, .long r6)] := hl
      refine lv_lload hx hb dX1_commonOf_67 (lv_at hl 0 rfl) ?_
      exact retL (u := r6) hx hb hr hlocks hS hP hD (hf0.trans hf.symm) rfl dX1_commonOf_69
    have hf := er2
    refine lc_ge (tgt := 25) hx hb dX1_commonOf_16 dX1_commonOf_17 (by decide) (fun cb => ?_) (fun cb => ?_)
    · have hf := it_t cb hf
      refine lv_lload_n hx hb dX1_commonOf_25 rfl (lv_at hl 1 rfl) ?_
      cases hf
      exact K _ _ _ hP hD hS (lv_sub hl [0] rfl)
    have hf := it_f cb hf
    refine lv_lload_n hx hb dX1_commonOf_20 rfl (lv_at hl 1 rfl) ?_
    refine lv_lneg hx hb dX1_commonOf_21 ?_
    refine lv_goto (tgt := 26) hx hb dX1_commonOf_22 (by decide) ?_
    cases hf
    exact K _ _ _ hP hD hS (lv_sub hl [0] rfl)
  have hf := er1
  refine lc_ge (tgt := 11) hx hb dX1_commonOf_2 dX1_commonOf_3 (by decide) (fun cb => ?_) (fun cb => ?_)
  · have hf := it_t cb hf
    refine lv_lload_n hx hb dX1_commonOf_11 rfl (lv_at hl 0 rfl) ?_
    cases hf
    exact K _ _ _ hP hD hS (lv_sub hl [1] rfl)
  have hf := it_f cb hf
  refine lv_lload_n hx hb dX1_commonOf_6 rfl (lv_at hl 0 rfl) ?_
  refine lv_lneg hx hb dX1_commonOf_7 ?_
  refine lv_goto (tgt := 12) hx hb dX1_commonOf_8 (by decide) ?_
  cases hf
  exact K _ _ _ hP hD hS (lv_sub hl [1] rfl)
set_option maxHeartbeats 4000000 in
set_option maxRecDepth 100000 in
theorem c_X1_make (l : Launch) (g : GG) (a0 : Nat → Nat) (s0 : T1) (p1 : Int64) (p3 : Int64) (hne : (m_X1_make s0 p1 p3) ≠ none) : Ct l g yX1_make cX1_make 7 none ({ frames := 1, cells := 0, slots := 0, locals := 30 } : Room) [.ref (a0 0), .long p1, .long p3] (wX1 a0 g s0) (Qv g (m_X1_make s0 p1 p3) (fun u => wX1 a0 g (u.1, u.2))) 0 0 := by
  obtain ⟨out, hf⟩ := ne_ex hne
  have hf0 := hf
  refine Ct.of (own := RX1) (by decide +kernel) rfl (Nat.le_of_ble_eq_true rfl) ?_
  intro p e s m below meth c hx hb hr hml hown hts hlocks hin hK A H locs hA hP hD hS ls hl
  have hl : lv_has ls 7 [(0, .ref (a0 0)), (1, .long p1), (3, .long p3)] := hl
  unfold m_X1_make at hf
  refine lv_lload_n hx hb dX1_make_0 rfl (lv_at hl 1 rfl) ?_
  refine lv_lload_n hx hb dX1_make_1 rfl (lv_at hl 2 rfl) ?_
  refine cLp hP hD hS hA (fun hPc hDc => rS (As := [.long p1, .long p3]) (rest := []) hx hb hml hown hts hK (c_X1_commonOf l g p1 p3 (bnd_ne hf)) svS_X1_commonOf kw771 hPc hDc rfl rfl hl.1 (Nat.le_of_ble_eq_true rfl) dX1_make_2 ⟨Nat.le_of_ble_eq_true rfl, Nat.le_of_ble_eq_true rfl, rfl, rfl, Nat.le_of_ble_eq_true rfl, Nat.le_of_ble_eq_true rfl⟩) [] rfl rfl rfl (fun x1 H locs ex1 hP hS => ?_)
  have hf := bnd_of hf ex1
  refine lv_lstore (lv' := [(5, .long x1), (0, .ref (a0 0)), (1, .long p1), (3, .long p3)]) hx hb dX1_make_5 hl (by decide) rfl (fun ls hl => ?_)
  refine lv_lload_n hx hb dX1_make_7 rfl (lv_at hl 3 rfl) ?_
  refine lv_lconst (v := 0) hx hb dX1_make_8 (by decide) ?_
  refine lc_le (tgt := 20) hx hb dX1_make_9 dX1_make_10 (by decide) (fun cb => ?_) (fun cb => ?_)
  · have hf := it_t cb hf
    refine lv_aload_n hx hb dX1_make_20 rfl (lv_at hl 1 rfl) ?_
    refine lv_lconst (v := 0) hx hb dX1_make_21 (by decide) ?_
    refine va_put (D := g.1) (ci := 2) (v := .long (0 : Int64)) (ty := .long) (C := RX1) (T := TX1) (N := 2) hx hb hts layX1 tyX1 tyX1_ok nmX1 hown hK.1 hP hD hS 0 rfl rfl 0 (by decide) (hts _ kw146) (fun _ h9 => h9) rfl (tyX1_ok 0 (by decide)) rfl rfl (Nat.le_of_ble_eq_true rfl) dX1_make_22 (fun H locs hP hD hS => ?_)
    have hP : va_P g.1 vwCl (wX1 a0 g ((0 : Int64), (p1_below s0))) H := hP
    have hD : va_D A (wX1 a0 g ((0 : Int64), (p1_below s0))) := hD
    refine lv_aload_n hx hb dX1_make_25 rfl (lv_at hl 1 rfl) ?_
    refine lv_lconst (v := 1) hx hb dX1_make_26 (by decide) ?_
    refine va_put (D := g.1) (ci := 2) (v := .long (1 : Int64)) (ty := .long) (C := RX1) (T := TX1) (N := 2) hx hb hts layX1 tyX1 tyX1_ok nmX1 hown hK.1 hP hD hS 0 rfl rfl 1 (by decide) (hts _ kw147) (fun _ h9 => h9) rfl (tyX1_ok 1 (by decide)) rfl rfl (Nat.le_of_ble_eq_true rfl) dX1_make_27 (fun H locs hP hD hS => ?_)
    have hP : va_P g.1 vwCl (wX1 a0 g ((0 : Int64), (1 : Int64))) H := hP
    have hD : va_D A (wX1 a0 g ((0 : Int64), (1 : Int64))) := hD
    exact retV (u := ((0 : Int64), (1 : Int64))) hx hb hr hlocks hS hP hD (hf0.trans hf.symm) dX1_make_30
  have hf := it_f cb hf
  refine lv_lload hx hb dX1_make_13 (lv_at hl 0 rfl) ?_
  refine lv_lconst (v := 0) hx hb dX1_make_15 (by decide) ?_
  refine lc_gt (tgt := 31) hx hb dX1_make_16 dX1_make_17 (by decide) (fun cb => ?_) (fun cb => ?_)
  · have hf := it_t cb hf
    refine lv_aload_n hx hb dX1_make_31 rfl (lv_at hl 1 rfl) ?_
    refine lv_lload_n hx hb dX1_make_32 rfl (lv_at hl 2 rfl) ?_
    refine lv_lload hx hb dX1_make_33 (lv_at hl 0 rfl) ?_
    have hi := it_n hf
    have hf := it_t hi hf
    refine lv_ldiv hx hb dX1_make_35 hi ?_
    refine va_put (D := g.1) (ci := 2) (v := .long (p1 / x1)) (ty := .long) (C := RX1) (T := TX1) (N := 2) hx hb hts layX1 tyX1 tyX1_ok nmX1 hown hK.1 hP hD hS 0 rfl rfl 0 (by decide) (hts _ kw146) (fun _ h9 => h9) rfl (tyX1_ok 0 (by decide)) rfl rfl (Nat.le_of_ble_eq_true rfl) dX1_make_36 (fun H locs hP hD hS => ?_)
    have hP : va_P g.1 vwCl (wX1 a0 g ((p1 / x1), (p1_below s0))) H := hP
    have hD : va_D A (wX1 a0 g ((p1 / x1), (p1_below s0))) := hD
    refine lv_aload_n hx hb dX1_make_39 rfl (lv_at hl 1 rfl) ?_
    refine lv_lload_n hx hb dX1_make_40 rfl (lv_at hl 3 rfl) ?_
    refine lv_lload hx hb dX1_make_41 (lv_at hl 0 rfl) ?_
    have hi := it_n hf
    have hf := it_t hi hf
    refine lv_ldiv hx hb dX1_make_43 hi ?_
    refine va_put (D := g.1) (ci := 2) (v := .long (p3 / x1)) (ty := .long) (C := RX1) (T := TX1) (N := 2) hx hb hts layX1 tyX1 tyX1_ok nmX1 hown hK.1 hP hD hS 0 rfl rfl 1 (by decide) (hts _ kw147) (fun _ h9 => h9) rfl (tyX1_ok 1 (by decide)) rfl rfl (Nat.le_of_ble_eq_true rfl) dX1_make_44 (fun H locs hP hD hS => ?_)
    have hP : va_P g.1 vwCl (wX1 a0 g ((p1 / x1), (p3 / x1))) H := hP
    have hD : va_D A (wX1 a0 g ((p1 / x1), (p3 / x1))) := hD
    exact retV (u := ((p1 / x1), (p3 / x1))) hx hb hr hlocks hS hP hD (hf0.trans hf.symm) dX1_make_47
  have hf := it_f cb hf
  refine lv_aload_n hx hb dX1_make_20 rfl (lv_at hl 1 rfl) ?_
  refine lv_lconst (v := 0) hx hb dX1_make_21 (by decide) ?_
  refine va_put (D := g.1) (ci := 2) (v := .long (0 : Int64)) (ty := .long) (C := RX1) (T := TX1) (N := 2) hx hb hts layX1 tyX1 tyX1_ok nmX1 hown hK.1 hP hD hS 0 rfl rfl 0 (by decide) (hts _ kw146) (fun _ h9 => h9) rfl (tyX1_ok 0 (by decide)) rfl rfl (Nat.le_of_ble_eq_true rfl) dX1_make_22 (fun H locs hP hD hS => ?_)
  have hP : va_P g.1 vwCl (wX1 a0 g ((0 : Int64), (p1_below s0))) H := hP
  have hD : va_D A (wX1 a0 g ((0 : Int64), (p1_below s0))) := hD
  refine lv_aload_n hx hb dX1_make_25 rfl (lv_at hl 1 rfl) ?_
  refine lv_lconst (v := 1) hx hb dX1_make_26 (by decide) ?_
  refine va_put (D := g.1) (ci := 2) (v := .long (1 : Int64)) (ty := .long) (C := RX1) (T := TX1) (N := 2) hx hb hts layX1 tyX1 tyX1_ok nmX1 hown hK.1 hP hD hS 0 rfl rfl 1 (by decide) (hts _ kw147) (fun _ h9 => h9) rfl (tyX1_ok 1 (by decide)) rfl rfl (Nat.le_of_ble_eq_true rfl) dX1_make_27 (fun H locs hP hD hS => ?_)
  have hP : va_P g.1 vwCl (wX1 a0 g ((0 : Int64), (1 : Int64))) H := hP
  have hD : va_D A (wX1 a0 g ((0 : Int64), (1 : Int64))) := hD
  exact retV (u := ((0 : Int64), (1 : Int64))) hx hb hr hlocks hS hP hD (hf0.trans hf.symm) dX1_make_30
set_option maxHeartbeats 4000000 in
set_option maxRecDepth 100000 in
theorem c_X1_add (l : Launch) (g : GG) (a0 : Nat → Nat) (s0 : T1) (p1 : Int64) (p3 : Int64) (hne : (m_X1_add s0 p1 p3) ≠ none) : Ct l g yX1_add cX1_add 7 none ({ frames := 2, cells := 0, slots := 0, locals := 56 } : Room) [.ref (a0 0), .long p1, .long p3] (wX1 a0 g s0) (Qv g (m_X1_add s0 p1 p3) (fun u => wX1 a0 g (u.1, u.2))) 0 0 := by
  obtain ⟨out, hf⟩ := ne_ex hne
  have hf0 := hf
  refine Ct.of (own := RX1) (by decide +kernel) rfl (Nat.le_of_ble_eq_true rfl) ?_
  intro p e s m below meth c hx hb hr hml hown hts hlocks hin hK A H locs hA hP hD hS ls hl
  have hl : lv_has ls 7 [(0, .ref (a0 0)), (1, .long p1), (3, .long p3)] := hl
  unfold m_X1_add at hf
  refine lv_aload_n hx hb dX1_add_0 rfl (lv_at hl 0 rfl) ?_
  refine va_get (D := g.1) (ci := 2) (v := .long (p1_below s0)) (C := RX1) (T := TX1) (N := 2) hx hb hts layX1 hown hK.1 hP 0 rfl rfl 1 (by decide) (hts _ kw147) (fun _ h9 => h9) rfl dX1_add_1 ?_
  refine lv_lload_n hx hb dX1_add_4 rfl (lv_at hl 2 rfl) ?_
  refine cLp hP hD hS hA (fun hPc hDc => rS (As := [.long (p1_below s0), .long p3]) (rest := []) hx hb hml hown hts hK (c_X1_commonOf l g (p1_below s0) p3 (bnd_ne hf)) svS_X1_commonOf kw771 hPc hDc rfl rfl hl.1 (Nat.le_of_ble_eq_true rfl) dX1_add_5 ⟨Nat.le_of_ble_eq_true rfl, Nat.le_of_ble_eq_true rfl, rfl, rfl, Nat.le_of_ble_eq_true rfl, Nat.le_of_ble_eq_true rfl⟩) [] rfl rfl rfl (fun x1 H locs ex1 hP hS => ?_)
  have hf := bnd_of hf ex1
  refine lv_lstore (lv' := [(5, .long x1), (0, .ref (a0 0)), (1, .long p1), (3, .long p3)]) hx hb dX1_add_8 hl (by decide) rfl (fun ls hl => ?_)
  refine lv_lload hx hb dX1_add_10 (lv_at hl 0 rfl) ?_
  refine lv_lconst (v := 0) hx hb dX1_add_12 (by decide) ?_
  refine lc_le (tgt := 49) hx hb dX1_add_13 dX1_add_14 (by decide) (fun cb => ?_) (fun cb => ?_)
  · have hf := it_t cb hf
    exact retV (u := ((p1_above s0), (p1_below s0))) hx hb hr hlocks hS hP hD (hf0.trans hf.symm) dX1_add_49
  have hf := it_f cb hf
  refine lv_aload_n hx hb dX1_add_17 rfl (lv_at hl 1 rfl) ?_
  refine lv_aload_n hx hb dX1_add_18 rfl (lv_at hl 1 rfl) ?_
  refine va_get (D := g.1) (ci := 2) (v := .long (p1_above s0)) (C := RX1) (T := TX1) (N := 2) hx hb hts layX1 hown hK.1 hP 0 rfl rfl 0 (by decide) (hts _ kw146) (fun _ h9 => h9) rfl dX1_add_19 ?_
  refine lv_lload_n hx hb dX1_add_22 rfl (lv_at hl 3 rfl) ?_
  refine lv_lload hx hb dX1_add_23 (lv_at hl 0 rfl) ?_
  have hi := it_n hf
  have hf := it_t hi hf
  refine lv_ldiv hx hb dX1_add_25 hi ?_
  refine lv_lmul hx hb dX1_add_26 ?_
  refine lv_lload_n hx hb dX1_add_27 rfl (lv_at hl 2 rfl) ?_
  refine lv_aload_n hx hb dX1_add_28 rfl (lv_at hl 1 rfl) ?_
  refine va_get (D := g.1) (ci := 2) (v := .long (p1_below s0)) (C := RX1) (T := TX1) (N := 2) hx hb hts layX1 hown hK.1 hP 0 rfl rfl 1 (by decide) (hts _ kw147) (fun _ h9 => h9) rfl dX1_add_29 ?_
  refine lv_lload hx hb dX1_add_32 (lv_at hl 0 rfl) ?_
  have hi := it_n hf
  have hf := it_t hi hf
  refine lv_ldiv hx hb dX1_add_34 hi ?_
  refine lv_lmul hx hb dX1_add_35 ?_
  refine lv_ladd hx hb dX1_add_36 ?_
  refine lv_aload_n hx hb dX1_add_37 rfl (lv_at hl 1 rfl) ?_
  refine va_get (D := g.1) (ci := 2) (v := .long (p1_below s0)) (C := RX1) (T := TX1) (N := 2) hx hb hts layX1 hown hK.1 hP 0 rfl rfl 1 (by decide) (hts _ kw147) (fun _ h9 => h9) rfl dX1_add_38 ?_
  refine lv_lload hx hb dX1_add_41 (lv_at hl 0 rfl) ?_
  have hi := it_n hf
  have hf := it_t hi hf
  refine lv_ldiv hx hb dX1_add_43 hi ?_
  refine lv_lload_n hx hb dX1_add_44 rfl (lv_at hl 3 rfl) ?_
  refine lv_lmul hx hb dX1_add_45 ?_
  refine cV hP hD hS hA (fun hPc hDc => rV (As := [.long (((p1_above s0) * (p3 / x1)) + (p1 * ((p1_below s0) / x1))), .long (((p1_below s0) / x1) * p3)]) (rest := []) hx hb hml hown hts hK (c_X1_make l g a0 s0 (((p1_above s0) * (p3 / x1)) + (p1 * ((p1_below s0) / x1))) (((p1_below s0) / x1) * p3) (bnd_ne hf)) svV_X1_make kw820 rfl rfl hPc hDc rfl rfl hl.1 (Nat.le_of_ble_eq_true rfl) dX1_add_46 ⟨Nat.le_of_ble_eq_true rfl, Nat.le_of_ble_eq_true rfl, rfl, rfl, Nat.le_of_ble_eq_true rfl, Nat.le_of_ble_eq_true rfl⟩) [(0, 1)] rfl rfl rfl (fun _ => rfl) (fun x2 H locs ex2 hP hD hS => ?_)
  have hf := bnd_of hf ex2
  have hP : va_P g.1 vwCl (wX1 a0 g (x2.1, x2.2)) H := hP
  have hD : va_D A (wX1 a0 g (x2.1, x2.2)) := hD
  exact retV (u := (x2.1, x2.2)) hx hb hr hlocks hS hP hD (hf0.trans hf.symm) dX1_add_49
set_option maxHeartbeats 4000000 in
set_option maxRecDepth 100000 in
theorem c_X1_isBelow (l : Launch) (g : GG) (a0 : Nat → Nat) (s0 : T1) (p1 : Int64) (p3 : Int64) (hne : (m_X1_isBelow s0 p1 p3) ≠ none) : Ct l g yX1_isBelow cX1_isBelow 5 (some .boolean) ({ frames := 0, cells := 0, slots := 0, locals := 0 } : Room) [.ref (a0 0), .long p1, .long p3] (wX1 a0 g s0) (Qi g .boolean (m_X1_isBelow s0 p1 p3) (fun u => u) (fun u => wX1 a0 g s0)) 0 0 := by
  obtain ⟨out, hf⟩ := ne_ex hne
  have hf0 := hf
  refine Ct.of (own := RX1) (by decide +kernel) rfl (Nat.le_of_ble_eq_true rfl) ?_
  intro p e s m below meth c hx hb hr hml hown hts hlocks hin hK A H locs hA hP hD hS ls hl
  have hl : lv_has ls 5 [(0, .ref (a0 0)), (1, .long p1), (3, .long p3)] := hl
  unfold m_X1_isBelow at hf
  refine lv_aload_n hx hb dX1_isBelow_0 rfl (lv_at hl 0 rfl) ?_
  refine va_get (D := g.1) (ci := 2) (v := .long (p1_above s0)) (C := RX1) (T := TX1) (N := 2) hx hb hts layX1 hown hK.1 hP 0 rfl rfl 0 (by decide) (hts _ kw146) (fun _ h9 => h9) rfl dX1_isBelow_1 ?_
  refine lv_lload_n hx hb dX1_isBelow_4 rfl (lv_at hl 2 rfl) ?_
  refine lv_lmul hx hb dX1_isBelow_5 ?_
  refine lv_lload_n hx hb dX1_isBelow_6 rfl (lv_at hl 1 rfl) ?_
  refine lv_aload_n hx hb dX1_isBelow_7 rfl (lv_at hl 0 rfl) ?_
  refine va_get (D := g.1) (ci := 2) (v := .long (p1_below s0)) (C := RX1) (T := TX1) (N := 2) hx hb hts layX1 hown hK.1 hP 0 rfl rfl 1 (by decide) (hts _ kw147) (fun _ h9 => h9) rfl dX1_isBelow_8 ?_
  refine lv_lmul hx hb dX1_isBelow_11 ?_
  refine lc_ge (tgt := 20) hx hb dX1_isBelow_12 dX1_isBelow_13 (by decide) (fun cb => ?_) (fun cb => ?_)
  · have hf := it_t cb hf
    refine lv_iconst (v := 0) hx hb dX1_isBelow_20 (by decide) ?_
    exact retI (u := (0 : Int32)) hx hb hr hlocks hS hP hD (hf0.trans hf.symm) rfl rfl dX1_isBelow_21
  have hf := it_f cb hf
  refine lv_iconst (v := 1) hx hb dX1_isBelow_16 (by decide) ?_
  refine lv_goto (tgt := 21) hx hb dX1_isBelow_17 (by decide) ?_
  exact retI (u := (1 : Int32)) hx hb hr hlocks hS hP hD (hf0.trans hf.symm) rfl rfl dX1_isBelow_21
set_option maxHeartbeats 4000000 in
set_option maxRecDepth 100000 in
theorem c_X1_partOf (l : Launch) (g : GG) (a0 : Nat → Nat) (s0 : T1) (p1 : Int32) (hne : (m_X1_partOf s0 p1) ≠ none) : Ct l g yX1_partOf cX1_partOf 2 (some .long) ({ frames := 0, cells := 0, slots := 0, locals := 0 } : Room) [.ref (a0 0), .int p1] (wX1 a0 g s0) (Ql g (m_X1_partOf s0 p1) (fun u => u) (fun u => wX1 a0 g s0)) 0 0 := by
  obtain ⟨out, hf⟩ := ne_ex hne
  have hf0 := hf
  refine Ct.of (own := RX1) (by decide +kernel) rfl (Nat.le_of_ble_eq_true rfl) ?_
  intro p e s m below meth c hx hb hr hml hown hts hlocks hin hK A H locs hA hP hD hS ls hl
  have hl : lv_has ls 2 [(0, .ref (a0 0)), (1, .int p1)] := hl
  unfold m_X1_partOf at hf
  refine lv_iload_n hx hb dX1_partOf_0 rfl (lv_at hl 1 rfl) ?_
  refine lv_if_ne (tgt := 11) hx hb dX1_partOf_1 (by decide) (fun cb => ?_) (fun cb => ?_)
  · have hf := it_f cb hf
    refine lv_aload_n hx hb dX1_partOf_11 rfl (lv_at hl 0 rfl) ?_
    refine va_get (D := g.1) (ci := 2) (v := .long (p1_below s0)) (C := RX1) (T := TX1) (N := 2) hx hb hts layX1 hown hK.1 hP 0 rfl rfl 1 (by decide) (hts _ kw147) (fun _ h9 => h9) rfl dX1_partOf_12 ?_
    exact retL (u := (p1_below s0)) hx hb hr hlocks hS hP hD (hf0.trans hf.symm) rfl dX1_partOf_15
  have hf := it_t cb hf
  refine lv_aload_n hx hb dX1_partOf_4 rfl (lv_at hl 0 rfl) ?_
  refine va_get (D := g.1) (ci := 2) (v := .long (p1_above s0)) (C := RX1) (T := TX1) (N := 2) hx hb hts layX1 hown hK.1 hP 0 rfl rfl 0 (by decide) (hts _ kw146) (fun _ h9 => h9) rfl dX1_partOf_5 ?_
  refine lv_goto (tgt := 15) hx hb dX1_partOf_8 (by decide) ?_
  exact retL (u := (p1_above s0)) hx hb hr hlocks hS hP hD (hf0.trans hf.symm) rfl dX1_partOf_15
