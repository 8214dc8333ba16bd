theorem svI_X9_init : SI RX9 yX9_init cX9_init 1 0 := ⟨kw26, kw1, kw27, rfl, rfl, by decide, by decide, by decide +kernel⟩
theorem svI_X10_init : SI RX10 yX10_init cX10_init 1 0 := ⟨kw1274, kw16, kw1275, rfl, rfl, by decide, by decide, by decide +kernel⟩
theorem dL_law_0 : decode cL_law 0 = .ok (.new 7, 3) := by decide +kernel
theorem dL_law_3 : decode cL_law 3 = .ok (.dup, 1) := by decide +kernel
theorem dL_law_4 : decode cL_law 4 = .ok (.invokespecial 9, 3) := by decide +kernel
theorem dL_law_7 : decode cL_law 7 = .ok (.astore_n 1, 1) := by decide +kernel
theorem dL_law_8 : decode cL_law 8 = .ok (.new 10, 3) := by decide +kernel
theorem dL_law_11 : decode cL_law 11 = .ok (.dup, 1) := by decide +kernel
theorem dL_law_12 : decode cL_law 12 = .ok (.invokespecial 12, 3) := by decide +kernel
theorem dL_law_15 : decode cL_law 15 = .ok (.astore_n 2, 1) := by decide +kernel
theorem dL_law_16 : decode cL_law 16 = .ok (.iconst 0, 1) := by decide +kernel
theorem dL_law_17 : decode cL_law 17 = .ok (.istore_n 3, 1) := by decide +kernel
theorem dL_law_18 : decode cL_law 18 = .ok (.iload_n 3, 1) := by decide +kernel
theorem dL_law_19 : decode cL_law 19 = .ok (.aload_n 0, 1) := by decide +kernel
theorem dL_law_20 : decode cL_law 20 = .ok (.arraylength, 1) := by decide +kernel
theorem dL_law_21 : decode cL_law 21 = .ok (.iconst 5, 1) := by decide +kernel
theorem dL_law_22 : decode cL_law 22 = .ok (.isub, 1) := by decide +kernel
theorem dL_law_23 : decode cL_law 23 = .ok (.if_icmp .gt 1512, 3) := by decide +kernel
theorem dL_law_26 : decode cL_law 26 = .ok (.aload_n 0, 1) := by decide +kernel
theorem dL_law_27 : decode cL_law 27 = .ok (.iload_n 3, 1) := by decide +kernel
theorem dL_law_28 : decode cL_law 28 = .ok (.iaload, 1) := by decide +kernel
theorem dL_law_29 : decode cL_law 29 = .ok (.bipush 63, 2) := by decide +kernel
theorem dL_law_31 : decode cL_law 31 = .ok (.iand, 1) := by decide +kernel
theorem dL_law_32 : decode cL_law 32 = .ok (.tableswitch 1497 0 41 #[184, 207, 220, 243, 286, 319, 352, 385, 418, 441, 464, 477, 500, 533, 566, 599, 622, 666, 699, 722, 756, 800, 833, 867, 900, 923, 967, 990, 1033, 1087, 1120, 1153, 1176, 1189, 1232, 1265, 1338, 1372, 1415, 1448, 1461, 1474], 184) := by decide +kernel
theorem dL_law_1529 : decode cL_law 1529 = .ok (.iinc 3 5, 3) := by decide +kernel
theorem dL_law_1532 : decode cL_law 1532 = .ok (.goto (-1514), 3) := by decide +kernel
theorem dL_law_1535 : decode cL_law 1535 = .ok (.iconst 1, 1) := by decide +kernel
theorem dL_law_1536 : decode cL_law 1536 = .ok (.ireturn, 1) := by decide +kernel
def s9_init (q : Nat) : T9 := (((fun _ => (0 : Int32)), (fun _ => (0 : Int32)), (fun _ => (0 : Int32)), (fun _ => (0 : Int32)), (fun _ => (0 : Int32)), (0 : Int32), (fun _ => (0 : Int32)), (fun _ => (0 : Int32)), (0 : Int32), (fun _ => (0 : Int32)), (0 : Int32), (0 : Int32), (fun _ => (0 : Int32))), ((fun _ => (0 : Int32)), (fun _ => (0 : Int32)), (fun _ => (0 : Int32)), (fun _ => (0 : Int32)), (fun _ => (0 : Int32)), (0 : Int32), (fun _ => (0 : Int32)), (fun _ => (0 : Int32)), (0 : Int32), (fun _ => (0 : Int32)), (0 : Int32), (0 : Int32), (fun _ => (0 : Int32))), ((fun _ => (0 : Int32)), (fun _ => (0 : Int32)), (fun _ => (0 : Int32)), (fun _ => (0 : Int32)), (fun _ => (0 : Int32)), (0 : Int32), (fun _ => (0 : Int32)), (fun _ => (0 : Int32)), (0 : Int32), (fun _ => (0 : Int32)), (0 : Int32), (0 : Int32), (fun _ => (0 : Int32))), (0 : Int32), ((fun _ => (0 : Int32)), (fun _ => (0 : Int32)), (0 : Int32), (0 : Int32), (0 : Int32)), (fun _ => (0 : Int32)), (0 : Int32), ((fun _ => (0 : Int64)), (fun _ => (0 : Int32)), (fun _ => (0 : Int32))), (fun _ => (0 : Int32)), ((fun _ => (0 : Int32)), (fun _ => (0 : Int32)), (fun _ => (0 : Int32)), (fun _ => (0 : Int32)), (0 : Int32)), (((fun _ => (0 : Int32)), (fun _ => (0 : Int32)), (fun _ => (0 : Int32)), (fun _ => (0 : Int32)), (fun _ => (0 : Int32)), ((0 : Int64), (1 : Int64)), (0 : Int32)), (fun _ => (0 : Int32)), (fun _ => (0 : Int32)), (fun _ => (0 : Int32)), (0 : Int32), (0 : Int32), (0 : Int32)), (((fun _ => (0 : Int32)), (fun _ => (0 : Int32)), (fun _ => (0 : Int32)), (fun _ => (0 : Int32)), (fun _ => (0 : Int32)), ((0 : Int64), (1 : Int64)), (0 : Int32)), ((fun _ => (0 : Int32)), (fun _ => (0 : Int32)), (fun _ => (0 : Int32)), (fun _ => (0 : Int32)), (0 : Int32)), (fun _ => (0 : Int32)), (fun _ => (0 : Int32)), (fun _ => (0 : Int32))), ((0 : Int64), (1 : Int64)), (q, 16, (fun _ => (0 : Int32)), (0 : Int32), (0 : Int32)))
def s10_init : T10 := ((0 : Int32), (fun _ => (0 : Int32)), (fun _ => (0 : Int32)), (fun _ => (0 : Int32)), (fun _ => (0 : Int32)), (fun _ => (0 : Int32)), (0 : Int32), (fun _ => (0 : Int32)), (fun _ => (0 : Int32)), (0 : Int32), (fun _ => (0 : Int32)), (0 : Int32), (fun _ => (0 : Int32)), (0 : Int32), (fun _ => (0 : Int32)), (0 : Int32), (upd (upd (upd (upd (fun _ => (0 : Int32)) (0 : Int32).toNatClampNeg (-1)) (1 : Int32).toNatClampNeg (-1)) (2 : Int32).toNatClampNeg (-1)) (3 : Int32).toNatClampNeg (-1)), (fun _ => (0 : Int64)), (fun _ => (0 : Int32)), (fun _ => (0 : Int32)), (0 : Int32), (fun _ => (0 : Int32)), (0 : Int64), (0 : Int64), (fun _ => (0 : Int32)), (0 : Int32), (0 : Int32), (fun _ => (0 : Int32)), (0 : Int32), (0 : Int32), (fun _ => (0 : Int32)), (fun _ => (0 : Int32)), (fun _ => (0 : Int32)), (0 : Int32), (0 : Int32), (fun _ => (0 : Int32)))
/-- all that the law asks of the two at once -/
abbrev OPS (Rel : T9 → T10 → Prop) : Prop := OP_letter Rel ∧ OP_tells Rel ∧ OP_paper Rel ∧ OP_kind Rel ∧ OP_raw Rel ∧ OP_heavy Rel ∧ OP_place Rel ∧ OP_rule Rel ∧ OP_free Rel ∧ OP_limit Rel ∧ OP_limits Rel ∧ OP_ties Rel ∧ OP_of Rel ∧ OP_ruleOf Rel ∧ OP_under Rel ∧ OP_pairs Rel ∧ OP_line Rel ∧ OP_block Rel ∧ OP_merges Rel ∧ OP_lineChange Rel ∧ OP_value Rel ∧ OP_grade Rel ∧ OP_change Rel ∧ OP_pool Rel ∧ OP_binds Rel ∧ OP_worth Rel ∧ OP_dearest Rel ∧ OP_needs Rel ∧ OP_likely Rel ∧ OP_says Rel ∧ OP_whatIs Rel ∧ OP_row Rel ∧ OP_clear Rel ∧ OP_lots Rel ∧ OP_shelf Rel ∧ OP_put Rel ∧ OP_look Rel ∧ OP_lays Rel ∧ OP_judge Rel ∧ OP_image Rel ∧ OP_on Rel ∧ OP_count Rel
theorem cmp_end {i L : Nat} (hi : i ≤ 3000) (hL : L ≤ 2560) : (nI L - 5 < nI i ↔ L < i + 5) := by
  rw [Int32.lt_iff_toInt_lt, Int32.toInt_sub, nI_toInt (by omega), nI_toInt (by omega), show (5 : Int32).toInt = 5 from rfl, Int.bmod_eq_of_le (by omega) (by omega)]
  omega
set_option maxHeartbeats 8000000 in
set_option maxRecDepth 100000 in
theorem law_loop {p : Program} {e : Env} {s : State} {m : MethodId} {below : List Frame} {meth : Method} {c : Code} (l : Launch) (g : GG) (Rel : T9 → T10 → Prop) (ho : OPS Rel) {b L : Nat} {xs : Nat → Int32} (hL : L ≤ 2560) (hx : p.tables.exec = Jvm.exec) (hb : c.code = code) (hr : meth.sig.returnType = ret) (hlocks : meth.locks = false) (hml : c.maxLocals = 4) (hown : s.vm.findClass RL = some m.cls) (hts : ∀ w ∈ G, w.before #[Value.ref b] s = true) (hX : va_X b L xs s s.heap) (hbl : b < s.heap.size) (hK : NK g s) (hE : SK g (fun q : Nat => s.heap.size ≤ q) s s.heap) (a0 a1 : Nat → Nat) : ∀ (k t : Nat) (s9 : T9) (s10 : T10) (H : Heap) (locs : List Loc) (ls : Array Slot), t + k = 513 → Rel s9 s10 → va_P g.1 vwCl (w9s a0 g s9 ++ w10s a1 g s10) H → va_D (fun q : Nat => s.heap.size ≤ q) (w9s a0 g s9 ++ w10s a1 g s10) → va_S (fun q : Nat => s.heap.size ≤ q) s.heap H locs → lv_has ls 4 [(3, .int (nI (5 * t))), (0, .ref b), (1, .ref (a0 0)), (2, .ref (a1 0))] → W p l e room_1 s m #[Value.ref b] below meth c H locs (200 + 24 * t) (3000 + 7200 * t) (lw_Z below #[Value.ref b] s) (F0 m 18 ls []) := by
  intro k
  induction k with
  | zero =>
    intro t s9 s10 H locs ls hk hR hP hD hS hl
    have hbA : ¬ (fun q : Nat => s.heap.size ≤ q) b := Nat.not_le.mpr hbl
    refine lv_iload_n hx hb dL_law_18 rfl (lv_at hl 0 rfl) ?_
    refine lv_aload_n hx hb dL_law_19 rfl (lv_at hl 1 rfl) ?_
    refine va_slen hx hb hX hbl hbA hS dL_law_20 ?_
    refine nmI (z := nI L) rfl ?_
    refine lv_iconst (v := 5) hx hb dL_law_21 (by decide) ?_
    refine lv_isub hx hb dL_law_22 ?_
    refine lv_icmp_gt (tgt := 1535) hx hb dL_law_23 (by decide) (fun _ => ?_) (fun c => absurd ((cmp_end (by omega) hL).mpr (by omega)) c)
    refine lv_iconst (v := 1) hx hb dL_law_1535 (by decide) ?_
    refine va_forget hS.2.2 ?_
    refine W.widen (k := 600000) (n := 7302250) (by omega) (by omega) ?_
    exact lw_ret hx hb hr hlocks dL_law_1536
  | succ k ih =>
    intro t s9 s10 H locs ls hk hR hP hD hS hl
    have hbA : ¬ (fun q : Nat => s.heap.size ≤ q) b := Nat.not_le.mpr hbl
    refine lv_iload_n hx hb dL_law_18 rfl (lv_at hl 0 rfl) ?_
    refine lv_aload_n hx hb dL_law_19 rfl (lv_at hl 1 rfl) ?_
    refine va_slen hx hb hX hbl hbA hS dL_law_20 ?_
    refine nmI (z := nI L) rfl ?_
    refine lv_iconst (v := 5) hx hb dL_law_21 (by decide) ?_
    refine lv_isub hx hb dL_law_22 ?_
    refine lv_icmp_gt (tgt := 1535) hx hb dL_law_23 (by decide) (fun _ => ?_) (fun cx => ?_)
    · refine lv_iconst (v := 1) hx hb dL_law_1535 (by decide) ?_
      refine va_forget hS.2.2 ?_
      refine W.widen (k := 600000) (n := 7302250) (by omega) (by omega) ?_
      exact lw_ret hx hb hr hlocks dL_law_1536
    have hi : 5 * t + 5 ≤ L := by
      rcases Nat.lt_or_ge L (5 * t + 5) with h | h
      · exact absurd ((cmp_end (by omega) hL).mpr h) cx
      · exact h
    have KK : ∀ (s9 : T9) (s10 : T10) (H : Heap) (locs : List Loc), Rel s9 s10 → va_P g.1 vwCl (w9s a0 g s9 ++ w10s a1 g s10) H → va_D (fun q : Nat => s.heap.size ≤ q) (w9s a0 g s9 ++ w10s a1 g s10) → va_S (fun q : Nat => s.heap.size ≤ q) s.heap H locs → W p l e room_1 s m #[Value.ref b] below meth c H locs (200 + 24 * t + 24) (3000 + 7200 * t + 7200) (lw_Z below #[Value.ref b] s) (F0 m 1529 ls []) := by
      intro s9 s10 H locs hR hP hD hS
      refine lv_iinc (v := nI (5 * (t + 1))) (lv' := [(3, .int (nI (5 * (t + 1)))), (0, .ref b), (1, .ref (a0 0)), (2, .ref (a1 0))]) hx hb dL_law_1529 hl (k := 0) rfl (by rw [show 5 * (t + 1) = 5 * t + 5 by omega, ← nI_add]; rfl) (by decide) rfl (fun ls hl => ?_)
      refine lv_goto (tgt := 18) hx hb dL_law_1532 (by decide) ?_
      exact ih (t + 1) s9 s10 H locs ls (by omega) hR hP hD hS hl
    refine lv_aload_n hx hb dL_law_26 rfl (lv_at hl 1 rfl) ?_
    refine lv_iload_n hx hb dL_law_27 rfl (lv_at hl 0 rfl) ?_
    refine va_sld hx hb hX hbl hbA hS (vp_in_nI (show 5 * t < L by omega) (by omega)) dL_law_28 ?_
    refine lv_bipush (v := 63) hx hb dL_law_29 (by decide) ?_
    refine lv_iand hx hb dL_law_31 ?_
    generalize (xs (nI (5 * t)).toNatClampNeg) &&& 63 = x
    by_cases c0 : x = (0 : Int32)
    · refine lv_tableIn (off := 184) (tgt := 216) hx hb dL_law_32 (by rw [c0]; decide) (by rw [c0]; decide) (by rw [c0]; rfl) (by decide) ?_
      exact law_letter l g Rel (ho.1) hL hx hb hml hown hts hX hbl hK hE a0 a1 (5 * t) hi s9 s10 hR (by omega) (by omega) hP hD hS hl KK
    by_cases c1 : x = (1 : Int32)
    · refine lv_tableIn (off := 207) (tgt := 239) hx hb dL_law_32 (by rw [c1]; decide) (by rw [c1]; decide) (by rw [c1]; rfl) (by decide) ?_
      exact law_tells l g Rel (ho.2.1) hL hx hb hml hown hts hX hbl hK hE a0 a1 (5 * t) hi s9 s10 hR (by omega) (by omega) hP hD hS hl KK
    by_cases c2 : x = (2 : Int32)
    · refine lv_tableIn (off := 220) (tgt := 252) hx hb dL_law_32 (by rw [c2]; decide) (by rw [c2]; decide) (by rw [c2]; rfl) (by decide) ?_
      exact law_paper l g Rel (ho.2.2.1) hL hx hb hml hown hts hX hbl hK hE a0 a1 (5 * t) hi s9 s10 hR (by omega) (by omega) hP hD hS hl KK
    by_cases c3 : x = (3 : Int32)
    · refine lv_tableIn (off := 243) (tgt := 275) hx hb dL_law_32 (by rw [c3]; decide) (by rw [c3]; decide) (by rw [c3]; rfl) (by decide) ?_
      exact law_kind l g Rel (ho.2.2.2.1) hL hx hb hml hown hts hX hbl hK hE a0 a1 (5 * t) hi s9 s10 hR (by omega) (by omega) hP hD hS hl KK
    by_cases c4 : x = (4 : Int32)
    · refine lv_tableIn (off := 286) (tgt := 318) hx hb dL_law_32 (by rw [c4]; decide) (by rw [c4]; decide) (by rw [c4]; rfl) (by decide) ?_
      exact law_raw l g Rel (ho.2.2.2.2.1) hL hx hb hml hown hts hX hbl hK hE a0 a1 (5 * t) hi s9 s10 hR (by omega) (by omega) hP hD hS hl KK
    by_cases c5 : x = (5 : Int32)
    · refine lv_tableIn (off := 319) (tgt := 351) hx hb dL_law_32 (by rw [c5]; decide) (by rw [c5]; decide) (by rw [c5]; rfl) (by decide) ?_
      exact law_heavy l g Rel (ho.2.2.2.2.2.1) hL hx hb hml hown hts hX hbl hK hE a0 a1 (5 * t) hi s9 s10 hR (by omega) (by omega) hP hD hS hl KK
    by_cases c6 : x = (6 : Int32)
    · refine lv_tableIn (off := 352) (tgt := 384) hx hb dL_law_32 (by rw [c6]; decide) (by rw [c6]; decide) (by rw [c6]; rfl) (by decide) ?_
      exact law_place l g Rel (ho.2.2.2.2.2.2.1) hL hx hb hml hown hts hX hbl hK hE a0 a1 (5 * t) hi s9 s10 hR (by omega) (by omega) hP hD hS hl KK
    by_cases c7 : x = (7 : Int32)
    · refine lv_tableIn (off := 385) (tgt := 417) hx hb dL_law_32 (by rw [c7]; decide) (by rw [c7]; decide) (by rw [c7]; rfl) (by decide) ?_
      exact law_rule l g Rel (ho.2.2.2.2.2.2.2.1) hL hx hb hml hown hts hX hbl hK hE a0 a1 (5 * t) hi s9 s10 hR (by omega) (by omega) hP hD hS hl KK
    by_cases c8 : x = (8 : Int32)
    · refine lv_tableIn (off := 418) (tgt := 450) hx hb dL_law_32 (by rw [c8]; decide) (by rw [c8]; decide) (by rw [c8]; rfl) (by decide) ?_
      exact law_free l g Rel (ho.2.2.2.2.2.2.2.2.1) hL hx hb hml hown hts hX hbl hK hE a0 a1 (5 * t) hi s9 s10 hR (by omega) (by omega) hP hD hS hl KK
    by_cases c9 : x = (9 : Int32)
    · refine lv_tableIn (off := 441) (tgt := 473) hx hb dL_law_32 (by rw [c9]; decide) (by rw [c9]; decide) (by rw [c9]; rfl) (by decide) ?_
      exact law_limit l g Rel (ho.2.2.2.2.2.2.2.2.2.1) hL hx hb hml hown hts hX hbl hK hE a0 a1 (5 * t) hi s9 s10 hR (by omega) (by omega) hP hD hS hl KK
    by_cases c10 : x = (10 : Int32)
    · refine lv_tableIn (off := 464) (tgt := 496) hx hb dL_law_32 (by rw [c10]; decide) (by rw [c10]; decide) (by rw [c10]; rfl) (by decide) ?_
      exact law_limits l g Rel (ho.2.2.2.2.2.2.2.2.2.2.1) hL hx hb hml hown hts hX hbl hK hE a0 a1 (5 * t) hi s9 s10 hR (by omega) (by omega) hP hD hS hl KK
    by_cases c11 : x = (11 : Int32)
    · refine lv_tableIn (off := 477) (tgt := 509) hx hb dL_law_32 (by rw [c11]; decide) (by rw [c11]; decide) (by rw [c11]; rfl) (by decide) ?_
      exact law_ties l g Rel (ho.2.2.2.2.2.2.2.2.2.2.2.1) hL hx hb hml hown hts hX hbl hK hE a0 a1 (5 * t) hi s9 s10 hR (by omega) (by omega) hP hD hS hl KK
    by_cases c12 : x = (12 : Int32)
    · refine lv_tableIn (off := 500) (tgt := 532) hx hb dL_law_32 (by rw [c12]; decide) (by rw [c12]; decide) (by rw [c12]; rfl) (by decide) ?_
      exact law_of l g Rel (ho.2.2.2.2.2.2.2.2.2.2.2.2.1) hL hx hb hml hown hts hX hbl hK hE a0 a1 (5 * t) hi s9 s10 hR (by omega) (by omega) hP hD hS hl KK
    by_cases c13 : x = (13 : Int32)
    · refine lv_tableIn (off := 533) (tgt := 565) hx hb dL_law_32 (by rw [c13]; decide) (by rw [c13]; decide) (by rw [c13]; rfl) (by decide) ?_
      exact law_ruleOf l g Rel (ho.2.2.2.2.2.2.2.2.2.2.2.2.2.1) hL hx hb hml hown hts hX hbl hK hE a0 a1 (5 * t) hi s9 s10 hR (by omega) (by omega) hP hD hS hl KK
    by_cases c14 : x = (14 : Int32)
    · refine lv_tableIn (off := 566) (tgt := 598) hx hb dL_law_32 (by rw [c14]; decide) (by rw [c14]; decide) (by rw [c14]; rfl) (by decide) ?_
      exact law_under l g Rel (ho.2.2.2.2.2.2.2.2.2.2.2.2.2.2.1) hL hx hb hml hown hts hX hbl hK hE a0 a1 (5 * t) hi s9 s10 hR (by omega) (by omega) hP hD hS hl KK
    by_cases c15 : x = (15 : Int32)
    · refine lv_tableIn (off := 599) (tgt := 631) hx hb dL_law_32 (by rw [c15]; decide) (by rw [c15]; decide) (by rw [c15]; rfl) (by decide) ?_
      exact law_pairs l g Rel (ho.2.2.2.2.2.2.2.2.2.2.2.2.2.2.2.1) hL hx hb hml hown hts hX hbl hK hE a0 a1 (5 * t) hi s9 s10 hR (by omega) (by omega) hP hD hS hl KK
    by_cases c16 : x = (16 : Int32)
    · refine lv_tableIn (off := 622) (tgt := 654) hx hb dL_law_32 (by rw [c16]; decide) (by rw [c16]; decide) (by rw [c16]; rfl) (by decide) ?_
      exact law_line l g Rel (ho.2.2.2.2.2.2.2.2.2.2.2.2.2.2.2.2.1) hL hx hb hml hown hts hX hbl hK hE a0 a1 (5 * t) hi s9 s10 hR (by omega) (by omega) hP hD hS hl KK
    by_cases c17 : x = (17 : Int32)
    · refine lv_tableIn (off := 666) (tgt := 698) hx hb dL_law_32 (by rw [c17]; decide) (by rw [c17]; decide) (by rw [c17]; rfl) (by decide) ?_
      exact law_block l g Rel (ho.2.2.2.2.2.2.2.2.2.2.2.2.2.2.2.2.2.1) hL hx hb hml hown hts hX hbl hK hE a0 a1 (5 * t) hi s9 s10 hR (by omega) (by omega) hP hD hS hl KK
    by_cases c18 : x = (18 : Int32)
    · refine lv_tableIn (off := 699) (tgt := 731) hx hb dL_law_32 (by rw [c18]; decide) (by rw [c18]; decide) (by rw [c18]; rfl) (by decide) ?_
      exact law_merges l g Rel (ho.2.2.2.2.2.2.2.2.2.2.2.2.2.2.2.2.2.2.1) hL hx hb hml hown hts hX hbl hK hE a0 a1 (5 * t) hi s9 s10 hR (by omega) (by omega) hP hD hS hl KK
    by_cases c19 : x = (19 : Int32)
    · refine lv_tableIn (off := 722) (tgt := 754) hx hb dL_law_32 (by rw [c19]; decide) (by rw [c19]; decide) (by rw [c19]; rfl) (by decide) ?_
      exact law_lineChange l g Rel (ho.2.2.2.2.2.2.2.2.2.2.2.2.2.2.2.2.2.2.2.1) hL hx hb hml hown hts hX hbl hK hE a0 a1 (5 * t) hi s9 s10 hR (by omega) (by omega) hP hD hS hl KK
    by_cases c20 : x = (20 : Int32)
    · refine lv_tableIn (off := 756) (tgt := 788) hx hb dL_law_32 (by rw [c20]; decide) (by rw [c20]; decide) (by rw [c20]; rfl) (by decide) ?_
      exact law_value l g Rel (ho.2.2.2.2.2.2.2.2.2.2.2.2.2.2.2.2.2.2.2.2.1) hL hx hb hml hown hts hX hbl hK hE a0 a1 (5 * t) hi s9 s10 hR (by omega) (by omega) hP hD hS hl KK
    by_cases c21 : x = (21 : Int32)
    · refine lv_tableIn (off := 800) (tgt := 832) hx hb dL_law_32 (by rw [c21]; decide) (by rw [c21]; decide) (by rw [c21]; rfl) (by decide) ?_
      exact law_grade l g Rel (ho.2.2.2.2.2.2.2.2.2.2.2.2.2.2.2.2.2.2.2.2.2.1) hL hx hb hml hown hts hX hbl hK hE a0 a1 (5 * t) hi s9 s10 hR (by omega) (by omega) hP hD hS hl KK
    by_cases c22 : x = (22 : Int32)
    · refine lv_tableIn (off := 833) (tgt := 865) hx hb dL_law_32 (by rw [c22]; decide) (by rw [c22]; decide) (by rw [c22]; rfl) (by decide) ?_
      exact law_change l g Rel (ho.2.2.2.2.2.2.2.2.2.2.2.2.2.2.2.2.2.2.2.2.2.2.1) hL hx hb hml hown hts hX hbl hK hE a0 a1 (5 * t) hi s9 s10 hR (by omega) (by omega) hP hD hS hl KK
    by_cases c23 : x = (23 : Int32)
    · refine lv_tableIn (off := 867) (tgt := 899) hx hb dL_law_32 (by rw [c23]; decide) (by rw [c23]; decide) (by rw [c23]; rfl) (by decide) ?_
      exact law_pool l g Rel (ho.2.2.2.2.2.2.2.2.2.2.2.2.2.2.2.2.2.2.2.2.2.2.2.1) hL hx hb hml hown hts hX hbl hK hE a0 a1 (5 * t) hi s9 s10 hR (by omega) (by omega) hP hD hS hl KK
    by_cases c24 : x = (24 : Int32)
    · refine lv_tableIn (off := 900) (tgt := 932) hx hb dL_law_32 (by rw [c24]; decide) (by rw [c24]; decide) (by rw [c24]; rfl) (by decide) ?_
      exact law_binds l g Rel (ho.2.2.2.2.2.2.2.2.2.2.2.2.2.2.2.2.2.2.2.2.2.2.2.2.1) hL hx hb hml hown hts hX hbl hK hE a0 a1 (5 * t) hi s9 s10 hR (by omega) (by omega) hP hD hS hl KK
    by_cases c25 : x = (25 : Int32)
    · refine lv_tableIn (off := 923) (tgt := 955) hx hb dL_law_32 (by rw [c25]; decide) (by rw [c25]; decide) (by rw [c25]; rfl) (by decide) ?_
      exact law_worth l g Rel (ho.2.2.2.2.2.2.2.2.2.2.2.2.2.2.2.2.2.2.2.2.2.2.2.2.2.1) hL hx hb hml hown hts hX hbl hK hE a0 a1 (5 * t) hi s9 s10 hR (by omega) (by omega) hP hD hS hl KK
    by_cases c26 : x = (26 : Int32)
    · refine lv_tableIn (off := 967) (tgt := 999) hx hb dL_law_32 (by rw [c26]; decide) (by rw [c26]; decide) (by rw [c26]; rfl) (by decide) ?_
      exact law_dearest l g Rel (ho.2.2.2.2.2.2.2.2.2.2.2.2.2.2.2.2.2.2.2.2.2.2.2.2.2.2.1) hL hx hb hml hown hts hX hbl hK hE a0 a1 (5 * t) hi s9 s10 hR (by omega) (by omega) hP hD hS hl KK
    by_cases c27 : x = (27 : Int32)
    · refine lv_tableIn (off := 990) (tgt := 1022) hx hb dL_law_32 (by rw [c27]; decide) (by rw [c27]; decide) (by rw [c27]; rfl) (by decide) ?_
      exact law_needs l g Rel (ho.2.2.2.2.2.2.2.2.2.2.2.2.2.2.2.2.2.2.2.2.2.2.2.2.2.2.2.1) hL hx hb hml hown hts hX hbl hK hE a0 a1 (5 * t) hi s9 s10 hR (by omega) (by omega) hP hD hS hl KK
    by_cases c28 : x = (28 : Int32)
    · refine lv_tableIn (off := 1033) (tgt := 1065) hx hb dL_law_32 (by rw [c28]; decide) (by rw [c28]; decide) (by rw [c28]; rfl) (by decide) ?_
      exact law_likely l g Rel (ho.2.2.2.2.2.2.2.2.2.2.2.2.2.2.2.2.2.2.2.2.2.2.2.2.2.2.2.2.1) hL hx hb hml hown hts hX hbl hK hE a0 a1 (5 * t) hi s9 s10 hR (by omega) (by omega) hP hD hS hl KK
    by_cases c29 : x = (29 : Int32)
    · refine lv_tableIn (off := 1087) (tgt := 1119) hx hb dL_law_32 (by rw [c29]; decide) (by rw [c29]; decide) (by rw [c29]; rfl) (by decide) ?_
      exact law_says l g Rel (ho.2.2.2.2.2.2.2.2.2.2.2.2.2.2.2.2.2.2.2.2.2.2.2.2.2.2.2.2.2.1) hL hx hb hml hown hts hX hbl hK hE a0 a1 (5 * t) hi s9 s10 hR (by omega) (by omega) hP hD hS hl KK
    by_cases c30 : x = (30 : Int32)
    · refine lv_tableIn (off := 1120) (tgt := 1152) hx hb dL_law_32 (by rw [c30]; decide) (by rw [c30]; decide) (by rw [c30]; rfl) (by decide) ?_
      exact law_whatIs l g Rel (ho.2.2.2.2.2.2.2.2.2.2.2.2.2.2.2.2.2.2.2.2.2.2.2.2.2.2.2.2.2.2.1) hL hx hb hml hown hts hX hbl hK hE a0 a1 (5 * t) hi s9 s10 hR (by omega) (by omega) hP hD hS hl KK
    by_cases c31 : x = (31 : Int32)
    · refine lv_tableIn (off := 1153) (tgt := 1185) hx hb dL_law_32 (by rw [c31]; decide) (by rw [c31]; decide) (by rw [c31]; rfl) (by decide) ?_
      exact law_row l g Rel (ho.2.2.2.2.2.2.2.2.2.2.2.2.2.2.2.2.2.2.2.2.2.2.2.2.2.2.2.2.2.2.2.1) hL hx hb hml hown hts hX hbl hK hE a0 a1 (5 * t) hi s9 s10 hR (by omega) (by omega) hP hD hS hl KK
    by_cases c32 : x = (32 : Int32)
    · refine lv_tableIn (off := 1176) (tgt := 1208) hx hb dL_law_32 (by rw [c32]; decide) (by rw [c32]; decide) (by rw [c32]; rfl) (by decide) ?_
      exact law_clear l g Rel (ho.2.2.2.2.2.2.2.2.2.2.2.2.2.2.2.2.2.2.2.2.2.2.2.2.2.2.2.2.2.2.2.2.1) hL hx hb hml hown hts hX hbl hK hE a0 a1 (5 * t) hi s9 s10 hR (by omega) (by omega) hP hD hS hl KK
    by_cases c33 : x = (33 : Int32)
    · refine lv_tableIn (off := 1189) (tgt := 1221) hx hb dL_law_32 (by rw [c33]; decide) (by rw [c33]; decide) (by rw [c33]; rfl) (by decide) ?_
      exact law_lots l g Rel (ho.2.2.2.2.2.2.2.2.2.2.2.2.2.2.2.2.2.2.2.2.2.2.2.2.2.2.2.2.2.2.2.2.2.1) hL hx hb hml hown hts hX hbl hK hE a0 a1 (5 * t) hi s9 s10 hR (by omega) (by omega) hP hD hS hl KK
    by_cases c34 : x = (34 : Int32)
    · refine lv_tableIn (off := 1232) (tgt := 1264) hx hb dL_law_32 (by rw [c34]; decide) (by rw [c34]; decide) (by rw [c34]; rfl) (by decide) ?_
      exact law_shelf l g Rel (ho.2.2.2.2.2.2.2.2.2.2.2.2.2.2.2.2.2.2.2.2.2.2.2.2.2.2.2.2.2.2.2.2.2.2.1) hL hx hb hml hown hts hX hbl hK hE a0 a1 (5 * t) hi s9 s10 hR (by omega) (by omega) hP hD hS hl KK
    by_cases c35 : x = (35 : Int32)
    · refine lv_tableIn (off := 1265) (tgt := 1297) hx hb dL_law_32 (by rw [c35]; decide) (by rw [c35]; decide) (by rw [c35]; rfl) (by decide) ?_
      exact law_put l g Rel (ho.2.2.2.2.2.2.2.2.2.2.2.2.2.2.2.2.2.2.2.2.2.2.2.2.2.2.2.2.2.2.2.2.2.2.2.1) hL hx hb hml hown hts hX hbl hK hE a0 a1 (5 * t) hi s9 s10 hR (by omega) (by omega) hP hD hS hl KK
    by_cases c36 : x = (36 : Int32)
    · refine lv_tableIn (off := 1338) (tgt := 1370) hx hb dL_law_32 (by rw [c36]; decide) (by rw [c36]; decide) (by rw [c36]; rfl) (by decide) ?_
      exact law_look l g Rel (ho.2.2.2.2.2.2.2.2.2.2.2.2.2.2.2.2.2.2.2.2.2.2.2.2.2.2.2.2.2.2.2.2.2.2.2.2.1) hL hx hb hml hown hts hX hbl hK hE a0 a1 (5 * t) hi s9 s10 hR (by omega) (by omega) hP hD hS hl KK
    by_cases c37 : x = (37 : Int32)
    · refine lv_tableIn (off := 1372) (tgt := 1404) hx hb dL_law_32 (by rw [c37]; decide) (by rw [c37]; decide) (by rw [c37]; rfl) (by decide) ?_
      exact law_lays l g Rel (ho.2.2.2.2.2.2.2.2.2.2.2.2.2.2.2.2.2.2.2.2.2.2.2.2.2.2.2.2.2.2.2.2.2.2.2.2.2.1) hL hx hb hml hown hts hX hbl hK hE a0 a1 (5 * t) hi s9 s10 hR (by omega) (by omega) hP hD hS hl KK
    by_cases c38 : x = (38 : Int32)
    · refine lv_tableIn (off := 1415) (tgt := 1447) hx hb dL_law_32 (by rw [c38]; decide) (by rw [c38]; decide) (by rw [c38]; rfl) (by decide) ?_
      exact law_judge l g Rel (ho.2.2.2.2.2.2.2.2.2.2.2.2.2.2.2.2.2.2.2.2.2.2.2.2.2.2.2.2.2.2.2.2.2.2.2.2.2.2.1) hL hx hb hml hown hts hX hbl hK hE a0 a1 (5 * t) hi s9 s10 hR (by omega) (by omega) hP hD hS hl KK
    by_cases c39 : x = (39 : Int32)
    · refine lv_tableIn (off := 1448) (tgt := 1480) hx hb dL_law_32 (by rw [c39]; decide) (by rw [c39]; decide) (by rw [c39]; rfl) (by decide) ?_
      exact law_image l g Rel (ho.2.2.2.2.2.2.2.2.2.2.2.2.2.2.2.2.2.2.2.2.2.2.2.2.2.2.2.2.2.2.2.2.2.2.2.2.2.2.2.1) hL hx hb hml hown hts hX hbl hK hE a0 a1 (5 * t) hi s9 s10 hR (by omega) (by omega) hP hD hS hl KK
    by_cases c40 : x = (40 : Int32)
    · refine lv_tableIn (off := 1461) (tgt := 1493) hx hb dL_law_32 (by rw [c40]; decide) (by rw [c40]; decide) (by rw [c40]; rfl) (by decide) ?_
      exact law_on l g Rel (ho.2.2.2.2.2.2.2.2.2.2.2.2.2.2.2.2.2.2.2.2.2.2.2.2.2.2.2.2.2.2.2.2.2.2.2.2.2.2.2.2.1) hL hx hb hml hown hts hX hbl hK hE a0 a1 (5 * t) hi s9 s10 hR (by omega) (by omega) hP hD hS hl KK
    by_cases c41 : x = (41 : Int32)
    · refine lv_tableIn (off := 1474) (tgt := 1506) hx hb dL_law_32 (by rw [c41]; decide) (by rw [c41]; decide) (by rw [c41]; rfl) (by decide) ?_
      exact law_count l g Rel (ho.2.2.2.2.2.2.2.2.2.2.2.2.2.2.2.2.2.2.2.2.2.2.2.2.2.2.2.2.2.2.2.2.2.2.2.2.2.2.2.2.2) hL hx hb hml hown hts hX hbl hK hE a0 a1 (5 * t) hi s9 s10 hR (by omega) (by omega) hP hD hS hl KK
    refine lv_tableOut (tgt := 1529) hx hb dL_law_32 (by have q0 := lv_neT c0 (a := 0) rfl; have q1 := lv_neT c1 (a := 1) rfl; have q2 := lv_neT c2 (a := 2) rfl; have q3 := lv_neT c3 (a := 3) rfl; have q4 := lv_neT c4 (a := 4) rfl; have q5 := lv_neT c5 (a := 5) rfl; have q6 := lv_neT c6 (a := 6) rfl; have q7 := lv_neT c7 (a := 7) rfl; have q8 := lv_neT c8 (a := 8) rfl; have q9 := lv_neT c9 (a := 9) rfl; have q10 := lv_neT c10 (a := 10) rfl; have q11 := lv_neT c11 (a := 11) rfl; have q12 := lv_neT c12 (a := 12) rfl; have q13 := lv_neT c13 (a := 13) rfl; have q14 := lv_neT c14 (a := 14) rfl; have q15 := lv_neT c15 (a := 15) rfl; have q16 := lv_neT c16 (a := 16) rfl; have q17 := lv_neT c17 (a := 17) rfl; have q18 := lv_neT c18 (a := 18) rfl; have q19 := lv_neT c19 (a := 19) rfl; have q20 := lv_neT c20 (a := 20) rfl; have q21 := lv_neT c21 (a := 21) rfl; have q22 := lv_neT c22 (a := 22) rfl; have q23 := lv_neT c23 (a := 23) rfl; have q24 := lv_neT c24 (a := 24) rfl; have q25 := lv_neT c25 (a := 25) rfl; have q26 := lv_neT c26 (a := 26) rfl; have q27 := lv_neT c27 (a := 27) rfl; have q28 := lv_neT c28 (a := 28) rfl; have q29 := lv_neT c29 (a := 29) rfl; have q30 := lv_neT c30 (a := 30) rfl; have q31 := lv_neT c31 (a := 31) rfl; have q32 := lv_neT c32 (a := 32) rfl; have q33 := lv_neT c33 (a := 33) rfl; have q34 := lv_neT c34 (a := 34) rfl; have q35 := lv_neT c35 (a := 35) rfl; have q36 := lv_neT c36 (a := 36) rfl; have q37 := lv_neT c37 (a := 37) rfl; have q38 := lv_neT c38 (a := 38) rfl; have q39 := lv_neT c39 (a := 39) rfl; have q40 := lv_neT c40 (a := 40) rfl; have q41 := lv_neT c41 (a := 41) rfl; omega) (by decide) ?_
    refine W.widen (k := 200 + 24 * t + 24) (n := 3000 + 7200 * t + 7200) (by omega) (by omega) ?_
    exact KK s9 s10 H locs hR hP hD hS
set_option maxHeartbeats 8000000 in
set_option maxRecDepth 100000 in
theorem law_start {p : Program} {e : Env} {s : State} {m : MethodId} {below : List Frame} {meth : Method} {c : Code} (l : Launch) (g : GG) (Rel : T9 → T10 → Prop) (ho : OPS Rel) {b L : Nat} {xs : Nat → Int32} (hL : L ≤ 2560) (hx : p.tables.exec = Jvm.exec) (hb : c.code = code) (hr : meth.sig.returnType = ret) (hlocks : meth.locks = false) (hml : c.maxLocals = 4) (hown : s.vm.findClass RL = some m.cls) (hts : ∀ w ∈ G, w.before #[Value.ref b] s = true) (hX : va_X b L xs s s.heap) (hbl : b < s.heap.size) (hK : NK g s) (hE : SK g (fun q : Nat => s.heap.size ≤ q) s s.heap) (h0 : ∀ q : Nat, Rel (s9_init q) s10_init) : W p l e room_1 s m #[Value.ref b] below meth c s.heap [] 0 0 (lw_Z below #[Value.ref b] s) (entryFrame m ([Value.ref b] : List Value).toArray 4) := by
  have hA : ∀ q : Nat, s.heap.size ≤ q → (fun q : Nat => s.heap.size ≤ q) q := fun _ h => h
  have hS : va_S (fun q : Nat => s.heap.size ≤ q) s.heap s.heap [] := va_S.rf
  have hP : va_P g.1 vwCl [] s.heap := fun k q h => by simp at h
  have hD : va_D (fun q : Nat => s.heap.size ≤ q) [] := ⟨fun i j p q h => by simp at h, fun k q h => by simp at h⟩
  have hl := lv_entry ([.ref b]) (n := 4) (Nat.le_of_ble_eq_true rfl)
  rw [lg_entry_eq]
  generalize (lg_sl ([.ref b]) ++ List.replicate (4 - (lg_sl ([.ref b])).length) Slot.unset).toArray = ls at hl ⊢
  have hl : lv_has ls 4 [(0, .ref b)] := hl
  refine va_new (D := g.1) (ci := 10) (fs := [.null, .null, .null, .int 0, .null, .null, .int 0, .null, .null, .null, .null, .null, .null, .null]) (C := RX9) (T := TX9) (N := 14) hx hb hts layX9 tyX9 tyX9_ok hown (hts _ kw23) (hts _ kw24) (hts _ kw1) hK.1 hP hD hS hA rfl (fun j hj => by match j, hj with | 0, _ => rfl | 1, _ => rfl | 2, _ => rfl | 3, _ => rfl | 4, _ => rfl | 5, _ => rfl | 6, _ => rfl | 7, _ => rfl | 8, _ => rfl | 9, _ => rfl | 10, _ => rfl | 11, _ => rfl | 12, _ => rfl | 13, _ => rfl | k + 14, hj => omega) (Nat.le_of_ble_eq_true rfl) (Nat.le_of_ble_eq_true rfl) dL_law_0 (fun q9 H hP hD hS => ?_)
  have hP : va_P g.1 vwCl ([] ++ [(q9, .inr (10, [.null, .null, .null, .int 0, .null, .null, .int 0, .null, .null, .null, .null, .null, .null, .null]))]) H := hP
  have hD : va_D (fun q : Nat => s.heap.size ≤ q) ([] ++ [(q9, .inr (10, [.null, .null, .null, .int 0, .null, .null, .int 0, .null, .null, .null, .null, .null, .null, .null]))]) := hD
  refine lv_dup hx hb dL_law_3 rfl ?_
  refine cN (wr := []) (e0 := .inr (10, [.null, .null, .null, .int 0, .null, .null, .int 0, .null, .null, .null, .null, .null, .null, .null])) (W1 := fun a => wX9 a g (fun _ => (0 : Int32)) (fun _ => (0 : Int32)) (fun _ => (0 : Int32)) (fun _ => (0 : Int32)) (fun _ => (0 : Int32)) (0 : Int32) (fun _ => (0 : Int32)) (fun _ => (0 : Int32)) (0 : Int32) (fun _ => (0 : Int32)) (0 : Int32) (0 : Int32) (fun _ => (0 : Int32)) (fun _ => (0 : Int32)) (fun _ => (0 : Int32)) (fun _ => (0 : Int32)) (fun _ => (0 : Int32)) (fun _ => (0 : Int32)) (0 : Int32) (fun _ => (0 : Int32)) (fun _ => (0 : Int32)) (0 : Int32) (fun _ => (0 : Int32)) (0 : Int32) (0 : Int32) (fun _ => (0 : Int32)) (fun _ => (0 : Int32)) (fun _ => (0 : Int32)) (fun _ => (0 : Int32)) (fun _ => (0 : Int32)) (fun _ => (0 : Int32)) (0 : Int32) (fun _ => (0 : Int32)) (fun _ => (0 : Int32)) (0 : Int32) (fun _ => (0 : Int32)) (0 : Int32) (0 : Int32) (fun _ => (0 : Int32)) (0 : Int32) (fun _ => (0 : Int32)) (fun _ => (0 : Int32)) (0 : Int32) (0 : Int32) (0 : Int32) (fun _ => (0 : Int32)) (0 : Int32) (fun _ => (0 : Int64)) (fun _ => (0 : Int32)) (fun _ => (0 : Int32)) (fun _ => (0 : Int32)) (fun _ => (0 : Int32)) (fun _ => (0 : Int32)) (fun _ => (0 : Int32)) (fun _ => (0 : Int32)) (0 : Int32) (fun _ => (0 : Int32)) (fun _ => (0 : Int32)) (fun _ => (0 : Int32)) (fun _ => (0 : Int32)) (fun _ => (0 : Int32)) (0 : Int64) (1 : Int64) (0 : Int32) (fun _ => (0 : Int32)) (fun _ => (0 : Int32)) (fun _ => (0 : Int32)) (0 : Int32) (0 : Int32) (0 : Int32) (fun _ => (0 : Int32)) (fun _ => (0 : Int32)) (fun _ => (0 : Int32)) (fun _ => (0 : Int32)) (fun _ => (0 : Int32)) (0 : Int64) (1 : Int64) (0 : Int32) (fun _ => (0 : Int32)) (fun _ => (0 : Int32)) (fun _ => (0 : Int32)) (fun _ => (0 : Int32)) (0 : Int32) (fun _ => (0 : Int32)) (fun _ => (0 : Int32)) (fun _ => (0 : Int32)) (0 : Int64) (1 : Int64) (a 131) 16 (fun _ => (0 : Int32)) (0 : Int32) (0 : Int32)) hP hD hS hA hE (fun hPc hDc hSc => rI (As := []) (rest := [.ref q9]) hx hb hml hown hts hK (kX9_init l g q9) svI_X9_init kw25 hPc hDc hSc rfl rfl hl.1 (Nat.le_of_ble_eq_true rfl) dL_law_4 ⟨Nat.le_of_ble_eq_true rfl, Nat.le_of_ble_eq_true rfl, rfl, rfl, Nat.le_of_ble_eq_true rfl, Nat.le_of_ble_eq_true rfl⟩) (fun a0 H2 locs2 ha0 hP2 hD2 hS2 => ?_)
  clear hP hD hS
  subst ha0
  have hP : va_P g.1 vwCl (w9s a0 g (s9_init (a0 131))) _ := hP2
  have hD : va_D (fun q : Nat => s.heap.size ≤ q) (w9s a0 g (s9_init (a0 131))) := hD2
  have hS := hS2
  refine lv_astore_n (lv' := [(1, .ref (a0 0)), (0, .ref b)]) hx hb dL_law_7 rfl hl (by decide) rfl (fun ls hl => ?_)
  refine va_new (D := g.1) (ci := 11) (fs := [.int 0, .null, .null, .null, .null, .null, .int 0, .null, .null, .int 0, .null, .int 0, .null, .int 0, .null, .int 0, .null, .null, .null, .null, .int 0, .null, .long 0, .long 0, .null, .int 0, .int 0, .null, .int 0, .int 0, .null, .null, .null, .int 0, .int 0, .null]) (C := RX10) (T := TX10) (N := 36) hx hb hts layX10 tyX10 tyX10_ok hown (hts _ kw1271) (hts _ kw1272) (hts _ kw16) hK.1 hP hD hS hA rfl (fun j hj => by match j, hj with | 0, _ => rfl | 1, _ => rfl | 2, _ => rfl | 3, _ => rfl | 4, _ => rfl | 5, _ => rfl | 6, _ => rfl | 7, _ => rfl | 8, _ => rfl | 9, _ => rfl | 10, _ => rfl | 11, _ => rfl | 12, _ => rfl | 13, _ => rfl | 14, _ => rfl | 15, _ => rfl | 16, _ => rfl | 17, _ => rfl | 18, _ => rfl | 19, _ => rfl | 20, _ => rfl | 21, _ => rfl | 22, _ => rfl | 23, _ => rfl | 24, _ => rfl | 25, _ => rfl | 26, _ => rfl | 27, _ => rfl | 28, _ => rfl | 29, _ => rfl | 30, _ => rfl | 31, _ => rfl | 32, _ => rfl | 33, _ => rfl | 34, _ => rfl | 35, _ => rfl | k + 36, hj => omega) (Nat.le_of_ble_eq_true rfl) (Nat.le_of_ble_eq_true rfl) dL_law_8 (fun q10 H hP hD hS => ?_)
  refine lv_dup hx hb dL_law_11 rfl ?_
  refine cN (wr := w9s a0 g (s9_init (a0 131))) (e0 := .inr (11, [.int 0, .null, .null, .null, .null, .null, .int 0, .null, .null, .int 0, .null, .int 0, .null, .int 0, .null, .int 0, .null, .null, .null, .null, .int 0, .null, .long 0, .long 0, .null, .int 0, .int 0, .null, .int 0, .int 0, .null, .null, .null, .int 0, .int 0, .null])) (W1 := fun a => wX10 a g (0 : Int32) (fun _ => (0 : Int32)) (fun _ => (0 : Int32)) (fun _ => (0 : Int32)) (fun _ => (0 : Int32)) (fun _ => (0 : Int32)) (0 : Int32) (fun _ => (0 : Int32)) (fun _ => (0 : Int32)) (0 : Int32) (fun _ => (0 : Int32)) (0 : Int32) (fun _ => (0 : Int32)) (0 : Int32) (fun _ => (0 : Int32)) (0 : Int32) (upd (upd (upd (upd (fun _ => (0 : Int32)) (0 : Int32).toNatClampNeg (-1)) (1 : Int32).toNatClampNeg (-1)) (2 : Int32).toNatClampNeg (-1)) (3 : Int32).toNatClampNeg (-1)) (fun _ => (0 : Int64)) (fun _ => (0 : Int32)) (fun _ => (0 : Int32)) (0 : Int32) (fun _ => (0 : Int32)) (0 : Int64) (0 : Int64) (fun _ => (0 : Int32)) (0 : Int32) (0 : Int32) (fun _ => (0 : Int32)) (0 : Int32) (0 : Int32) (fun _ => (0 : Int32)) (fun _ => (0 : Int32)) (fun _ => (0 : Int32)) (0 : Int32) (0 : Int32) (fun _ => (0 : Int32))) hP hD hS hA hE (fun hPc hDc hSc => rI (As := []) (rest := [.ref q10]) hx hb hml hown hts hK (kX10_init l g q10) svI_X10_init kw1273 hPc hDc hSc rfl rfl hl.1 (Nat.le_of_ble_eq_true rfl) dL_law_12 ⟨Nat.le_of_ble_eq_true rfl, Nat.le_of_ble_eq_true rfl, rfl, rfl, Nat.le_of_ble_eq_true rfl, Nat.le_of_ble_eq_true rfl⟩) (fun a1 H3 locs3 ha1 hP3 hD3 hS3 => ?_)
  clear hP hD hS hP2 hD2 hS2
  subst ha1
  have hP : va_P g.1 vwCl (w9s a0 g (s9_init (a0 131)) ++ w10s a1 g s10_init) _ := hP3
  have hD : va_D (fun q : Nat => s.heap.size ≤ q) (w9s a0 g (s9_init (a0 131)) ++ w10s a1 g s10_init) := hD3
  have hS := hS3
  refine lv_astore_n (lv' := [(2, .ref (a1 0)), (1, .ref (a0 0)), (0, .ref b)]) hx hb dL_law_15 rfl hl (by decide) rfl (fun ls hl => ?_)
  refine lv_iconst (v := 0) hx hb dL_law_16 (by decide) ?_
  refine lv_istore_n (lv' := [(3, .int 0), (2, .ref (a1 0)), (1, .ref (a0 0)), (0, .ref b)]) hx hb dL_law_17 rfl hl (by decide) rfl (fun ls hl => ?_)
  refine W.widen (k := 200 + 24 * 0) (n := 3000 + 7200 * 0) (by decide) (by decide) ?_
  exact law_loop l g Rel ho hL hx hb hr hlocks hml hown hts hX hbl hK hE a0 a1 513 0 _ _ _ _ _ (by omega) (h0 _) hP hD hS (lv_sub hl [0, 3, 2, 1] rfl)
