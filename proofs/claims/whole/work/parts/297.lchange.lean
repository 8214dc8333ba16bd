/-! CHANGE in THE LINE by ABSOLUTE; the call lineChange -/
theorem abs_den {A : Sh} (l p : Nat) (h : lvD A l p = 1) : (lvQ A l p).den = 1 := by
  have := den_mk (lvN A l p) (d := lvD A l p) (by omega)
  unfold lvQ
  rw [h] at this ⊢
  exact Nat.dvd_one.mp this
theorem lvD_abs (A : Sh) (p : Nat) : lvD A 1 p = 1 := by
  unfold lvD mnD nuD
  rw [if_neg (show ¬ 1 = 0 by decide), if_neg (show ¬ 1 = 0 by decide)]
  split <;> rfl
theorem lv_den1 (A : Sh) (p : Nat) : (lvQ A 1 p).den = 1 := abs_den 1 p (lvD_abs A p)
theorem tLD_1 (A : Sh) (p : Nat) : tLD A 1 p = 1 := by
  unfold tLD
  rw [if_neg (by decide), lv_den1]
theorem sQ_1 (A : Sh) (P : Nat → Bool) : ∀ n, sQ (tL A 1) P n = mkRat ((sm (fun p => if P p = true then tLN A 1 p else 0) n : Nat) : Int) 1 := by
  intro n
  induction n with
  | zero => exact (Rat.zero_mkRat 1).symm
  | succ n ih =>
    rw [sQ, ih, sm]
    by_cases c : P n = true
    · rw [if_pos c, if_pos c, Int.natCast_add, ← mkRat_same _ _ (by decide)]
      unfold tL
      rw [tLD_1]
    · rw [if_neg c, if_neg c, Rat.add_zero, Nat.add_zero]
theorem sup_abs (A : Sh) : supL A 1 := fun k hk => ⟨1, by decide, by decide, by rw [sQ_1]; exact den_mk _ (by decide), by rw [tLD_1]; exact Nat.dvd_refl 1⟩
theorem chL_1 (A : Sh) : chL A 1 = mkRat ((sm (tLN A 1) (hN A) : Nat) : Int) 1 := by
  unfold chL
  rw [sQ_1]
  congr 2
theorem sumsL10 {s : T10} {A : Sh} (h : S10 s A) (hok : okS A) (e1 : Eqn (p10_block s) (lnK A 1).2.1 (lnK A 1).1) : ∃ a b, m_X10_lineSums s = some (J (chL A 1).num, J ((chL A 1).den : Int), a, b) := by
  have n7 := hok.1.1
  obtain ⟨r, e, y1, y2, a, b, rfl⟩ := lp_invf (f := fun z : Int64 × Int32 × Int64 × Int64 × Int32 × Int32 => m_X10_lineSums_l4 s z.1 z.2.1 z.2.2.1 z.2.2.2.1 z.2.2.2.2.1 z.2.2.2.2.2) (I := fun d z => ∃ k y1 y2 a b, k ≤ hN A ∧ d = hN A - k ∧ z = (J ((sm (tLN A 1) k : Nat) : Int), nI k, y1, y2, a, b)) (Q := fun r => ∃ y1 y2 a b, r = (J ((sm (tLN A 1) (hN A) : Nat) : Int), y1, y2, a, b)) (d := hN A) (s := ((0 : Int64), (0 : Int32), p10_up s, p10_down s, p10_numberUp s, p10_numberDown s)) (by
    rintro d z ⟨k, y1, y2, a, b, hk, hd, rfl⟩
    rcases Nat.lt_or_ge k (hN A) with w | w
    · have m := mkA_le hok w
      have wt := wtA_in hok w
      obtain ⟨b1, b2⟩ := lvQ_bd hok 1 w
      have hs : S10 (u10_numberDown b (u10_numberUp a (u10_down y2 (u10_up y1 s)))) A := S10_mk h (by dsimp only [c10])
      obtain ⟨a', b', lv⟩ := lineValue10 (s := u10_numberDown b (u10_numberUp a (u10_down y2 (u10_up y1 s)))) hs hok (l := 1) (by decide) e1 w
      have lv' : m_X10_lineValue (u10_numberDown b (u10_numberUp a (u10_down y2 (u10_up y1 s)))) 1 (nI k) = some (J (lvQ A 1 k).num, J ((lvQ A 1 k).den : Int), a', b') := lv
      have hs2 : S10 (u10_numberDown b' (u10_numberUp a' (u10_down (J ((lvQ A 1 k).den : Int)) (u10_up (J (lvQ A 1 k).num) s)))) A := S10_mk h (by dsimp only [c10])
      have ab : (some (if (0 : Int64) < J (lvQ A 1 k).num - (nI (mkA A k)).toInt64 then J (lvQ A 1 k).num - (nI (mkA A k)).toInt64 else -(J (lvQ A 1 k).num - (nI (mkA A k)).toInt64)) : Option Int64) = some (J (aL A 1 k : Int)) := by
        rw [nI_64 (k := mkA A k) (by omega), J_sub, abs_J ⟨by omega, by omega⟩]
        unfold aL
        rw [lv_den1, Nat.mul_one]
      refine Or.inl ⟨hN A - (k + 1), (J ((sm (tLN A 1) (k + 1) : Nat) : Int), nI (k + 1), J (lvQ A 1 k).num, J ((lvQ A 1 k).den : Int), a', b'), ?_, by omega, k + 1, _, _, _, _, by omega, rfl, rfl⟩
      show m_X10_lineSums_l4 s (J ((sm (tLN A 1) k : Nat) : Int)) (nI k) y1 y2 a b = _
      unfold m_X10_lineSums_l4
      rw [h.1, if_neg (nI_ge w (by omega)), lv', Option.bind_some]
      simp only
      rw [weight10 hs2 hok w, Option.bind_some, mark10 hs2 hok w, Option.bind_some, ab, Option.bind_some, nI_64 (k := wtA A k) (by omega), J_mul, J_add, nI_1, ← Int.natCast_mul, ← Int.natCast_add]
      rfl
    · have : k = hN A := by omega
      subst this
      refine Or.inr ⟨(J ((sm (tLN A 1) (hN A) : Nat) : Int), y1, y2, a, b), ?_, y1, y2, a, b, rfl⟩
      show m_X10_lineSums_l4 s (J ((sm (tLN A 1) (hN A) : Nat) : Int)) (nI (hN A)) y1 y2 a b = _
      unfold m_X10_lineSums_l4
      rw [h.1, if_pos (nI_le w (by omega))]) ⟨0, _, _, _, _, Nat.zero_le _, rfl, rfl⟩ (by omega)
  have big : sm (tLN A 1) (hN A) ≤ 250632 * 7 := by
    refine Nat.le_trans (sm_le (h := fun _ => 250632) (fun p hp => ?_)) ?_
    · have := tLN_le hok 1 hp
      rw [tLD_1] at this
      omega
    · rw [sm_const]
      omega
  refine ⟨a, b, ?_⟩
  have f := fraction10 (u10_numberDown b (u10_numberUp a (u10_down y2 (u10_up y1 s)))) (x := ((sm (tLN A 1) (hN A) : Nat) : Int)) (d := 1) (rng_nat (by omega)) (by decide) (rng_nat (by decide))
  rw [← chL_1] at f
  have f' : m_X10_fraction (u10_numberDown b (u10_numberUp a (u10_down y2 (u10_up y1 s)))) (J ((sm (tLN A 1) (hN A) : Nat) : Int)) 1 = _ := f
  unfold m_X10_lineSums
  rw [e, Option.bind_some]
  simp only
  rw [f', Option.bind_some]
theorem op_lineChange : OP_lineChange Rel := by
  intro s9 s10 p1 p2 ⟨A, hok, h6, h10, rI, rL, rT, rH, rR, rS, rB⟩
  have n7 := hok.1.1
  have refuse : m_X9_lineChange s9 p1 p2 = some (4000000000000000000 - (-2 : Int32).toInt64, cnt (p9_refusals s9) 2, p8_marks (p4_values (p9_standing s9)), p8_weights (p4_values (p9_standing s9)), p8_places (p4_values (p9_standing s9)), p8_aboves (p4_values (p9_standing s9)), p8_belows (p4_values (p9_standing s9)), p1_above (p8_reduced (p4_values (p9_standing s9))), p1_below (p8_reduced (p4_values (p9_standing s9))), p8_papers (p4_values (p9_standing s9)), p4_blocks (p9_standing s9), p4_tops (p9_standing s9), p4_bottoms (p9_standing s9), p4_blocksNow (p9_standing s9), p4_mergesDone (p9_standing s9), p4_loss (p9_standing s9), p1_above (p9_fraction s9), p1_below (p9_fraction s9)) → m_X10_lineChange s10 p1 p2 = some (4000000000000000000 - (-2 : Int32).toInt64, cnt (p10_refusals s10) 2, curL10 s10) → ∃ u v, m_X9_lineChange s9 p1 p2 = some u ∧ m_X10_lineChange s10 p1 p2 = some v ∧ u.1 = v.1 ∧ Rel (st_X9_lineChange s9 u) (st_X10_lineChange s10 v) := fun e9 e10 => ⟨_, _, e9, e10, rfl, A, hok, h6, h10, rI, rL, rT, rH, Req_cnt rR (by decide), rS, rB⟩
  have far : ∀ s : T10, p10_refusals s = p10_refusals s10 → m_X10_far s (-2) = some (4000000000000000000 - (-2 : Int32).toInt64, cnt (p10_refusals s10) 2) := fun s hs => by
    rw [far10 s (k := 2) (by decide) (by decide), hs]
  have lng : ∀ s : T9, p9_refusals s = p9_refusals s9 → m_X9useLong s (-2) = some (4000000000000000000 - (-2 : Int32).toInt64, cnt (p9_refusals s9) 2) := fun s hs => by
    rw [useLong9 s (k := 2) (by decide) (by decide), hs]
  rcases line_cases p1 with ⟨l, hl, rfl, l9, l10⟩ | ⟨l9, l10⟩
  · rcases part_cases p2 with ⟨pc, e9, e10⟩ | ⟨e9, e10⟩
    · obtain ⟨r, r1, r2, r3, r4, r5⟩ := work4 (p9_standing s9) h6 hok hl
      obtain ⟨f, a, b, f1, f2⟩ := lines10 h10 hok hl
      have sup : supL A l := by
        rcases (show l = 0 ∨ l = 1 by omega) with rfl | rfl
        · exact sup_sq hok
        · exact sup_abs A
      have wc := workChangeL hok hl r2 sup (p9_fraction s9)
      have ch10 : ∃ a' b', (if nI l = 0 then ((m_X10_lineSquares (u10_merged (nI (begC A - (lnK A l).1)) (u10_blocks (nI (lnK A l).1) (u10_block f (u10_numberDown b (u10_numberUp a s10)))))).bind fun x20 => some (x20.1, x20.2, a, b)) else ((m_X10_lineSums (u10_merged (nI (begC A - (lnK A l).1)) (u10_blocks (nI (lnK A l).1) (u10_block f (u10_numberDown b (u10_numberUp a s10)))))).bind fun x19 => some (x19.1, x19.2.1, x19.2.2.1, x19.2.2.2)) : Option (Int64 × Int64 × Int32 × Int32)) = some (J (chL A l).num, J ((chL A l).den : Int), a', b') := by
        rcases (show l = 0 ∨ l = 1 by omega) with rfl | rfl
        · have q := squaresL10 (s := q10 s10 f (nI (lnK A 0).1) (nI (begC A - (lnK A 0).1)) a b) (S10_q h10 _ _ _ _ _) hok rfl f2
          have q' : m_X10_lineSquares (u10_merged (nI (begC A - (lnK A 0).1)) (u10_blocks (nI (lnK A 0).1) (u10_block f (u10_numberDown b (u10_numberUp a s10))))) = _ := q
          refine ⟨a, b, ?_⟩
          rw [if_pos (show nI 0 = 0 from rfl), q', Option.bind_some]
        · obtain ⟨a', b', q⟩ := sumsL10 (s := q10 s10 f (nI (lnK A 1).1) (nI (begC A - (lnK A 1).1)) a b) (S10_q h10 _ _ _ _ _) hok f2
          have q' : m_X10_lineSums (u10_merged (nI (begC A - (lnK A 1).1)) (u10_blocks (nI (lnK A 1).1) (u10_block f (u10_numberDown b (u10_numberUp a s10))))) = _ := q
          refine ⟨a', b', ?_⟩
          rw [if_neg (show ¬ nI 1 = 0 by decide), q', Option.bind_some]
      obtain ⟨a', b', ch10⟩ := ch10
      refine ⟨(if p2 = 0 then J (chL A l).num else J ((chL A l).den : Int), p9_refusals s9, r.1, r.2.1, r.2.2.1, r.2.2.2.1, r.2.2.2.2.1, r.2.2.2.2.2.1, r.2.2.2.2.2.2.1, r.2.2.2.2.2.2.2.1, r.2.2.2.2.2.2.2.2.1, r.2.2.2.2.2.2.2.2.2.1, r.2.2.2.2.2.2.2.2.2.2.1, r.2.2.2.2.2.2.2.2.2.2.2.1, r.2.2.2.2.2.2.2.2.2.2.2.2.1, r.2.2.2.2.2.2.2.2.2.2.2.2.2, J (chL A l).num, J ((chL A l).den : Int)), (if p2 = 0 then J (chL A l).num else J ((chL A l).den : Int), p10_refusals s10, J (chL A l).num, J ((chL A l).den : Int), a', b', f, nI (lnK A l).1, nI (begC A - (lnK A l).1)), ?_, ?_, rfl, Rel_q rI rL rT rH (by dsimp only [keep9q, st_X9_lineChange]) (by dsimp only [keep10, st_X10_lineChange]) hok (by dsimp only [st_X9_lineChange]; exact h6) (S10_mk h10 (by dsimp only [c10, st_X10_lineChange])) (by dsimp only [st_X9_lineChange, st_X10_lineChange]; exact rR) (by dsimp only [st_X9_lineChange]; exact rS) (by dsimp only [RelB, st_X9_lineChange]; exact rB)⟩
      · unfold m_X9_lineChange
        rw [l9, Option.bind_some, if_neg (by decide), e9, Option.bind_some, if_neg (by decide), r1, Option.bind_some, wc, Option.bind_some]
        unfold m_X1_partOf
        by_cases c : p2 = 0
        · rw [if_pos c, if_pos c]; rfl
        · rw [if_neg c, if_neg c]; rfl
      · unfold m_X10_lineChange
        rw [l10, Option.bind_some, if_neg (by decide), isPart10, e10, Option.bind_some, if_neg (by decide), f1, Option.bind_some]
        simp only
        rw [ch10, Option.bind_some]
        unfold m_X10_part
        by_cases c : p2 = 0
        · rw [if_pos c, if_pos c]; rfl
        · rw [if_neg c, if_neg c]; rfl
    · refine refuse ?_ ?_
      · unfold m_X9_lineChange
        rw [l9, Option.bind_some, if_neg (by decide), e9, Option.bind_some, if_pos rfl, Option.bind_some]
        simp only
        rw [lng _ rfl, Option.bind_some]
      · unfold m_X10_lineChange
        rw [l10, Option.bind_some, if_neg (by decide), isPart10, e10, Option.bind_some, if_pos rfl, Option.bind_some]
        simp only
        rw [far _ rfl, Option.bind_some]
        rfl
  · refine refuse ?_ ?_
    · unfold m_X9_lineChange
      rw [l9, Option.bind_some, if_pos rfl, Option.bind_some]
      simp only
      rw [lng _ rfl, Option.bind_some]
    · unfold m_X10_lineChange
      rw [l10, Option.bind_some, if_pos rfl, Option.bind_some]
      simp only
      rw [far _ rfl, Option.bind_some]
      rfl
