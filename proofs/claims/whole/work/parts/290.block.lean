/-! the call block -/
theorem op_block : OP_block Rel := by
  intro s9 s10 p1 p2 ⟨A, hok, h6, h10, rI, rL, rT, rH, rR, rS, rB⟩
  rcases line_cases p1 with ⟨l, hl, rfl, l9, l10⟩ | ⟨l9, l10⟩
  · obtain ⟨r, r1, r2, r3, r4, r5⟩ := work4 (p9_standing s9) h6 hok hl
    obtain ⟨f, a, b, f1, f2⟩ := lines10 h10 hok hl
    have ab := BKS_all (lnK_ok hok l).1
    have c7 := ab.1
    have cn : (nI (lnK A l).1 - 1).toInt = ((lnK A l).1 : Int) - 1 := sub1_int (by omega)
    have inn : m_X10_in p2 (-1) (nI (lnK A l).1 - 1) = some (if -1 ≤ p2.toInt ∧ p2.toInt ≤ ((lnK A l).1 : Int) - 1 then 1 else 0) := by
      rw [in10, cn]
      rfl
    have ok : ∀ (v : Int32) (a b : Int32), Rel (st_X9_block s9 (v, p9_refusals s9, r)) (st_X10_block s10 (v, p10_refusals s10, a, b, f, nI (lnK A l).1, nI (begC A - (lnK A l).1))) := fun v a b => Rel_q rI rL rT rH (by dsimp only [keep9q, st_X9_block]) (by dsimp only [keep10, st_X10_block]) hok (by dsimp only [st_X9_block]; exact h6) (S10_mk h10 (by dsimp only [c10, st_X10_block])) (by dsimp only [st_X9_block, st_X10_block]; exact rR) (by dsimp only [st_X9_block]; exact rS) (by dsimp only [RelB, st_X9_block]; exact rB)
    by_cases m1 : p2 = -1
    · refine ⟨(nI (lnK A l).1, p9_refusals s9, r), (nI (lnK A l).1, p10_refusals s10, a, b, f, nI (lnK A l).1, nI (begC A - (lnK A l).1)), ?_, ?_, rfl, ok _ _ _⟩
      · unfold m_X9_block m_X4_blockCount
        rw [l9, Option.bind_some, if_neg (by decide), r1, Option.bind_some, if_pos m1, Option.bind_some, ← r4]
      · have t : p2.toInt = -1 := by rw [m1]; rfl
        unfold m_X10_block
        rw [l10, Option.bind_some, if_neg (by decide), f1, Option.bind_some]
        simp only
        rw [inn, t, if_pos (by omega), Option.bind_some, if_neg (by decide), if_neg (by rw [m1]; decide)]
    · have nt : p2.toInt ≠ -1 := fun x => m1 (Int32.toInt_inj.mp x)
      by_cases c : 0 ≤ p2.toInt ∧ p2.toInt < ((lnK A l).1 : Int)
      · obtain ⟨i, hi, rfl⟩ := num_of (x := p2) (m := 6) c.1 (by omega)
        rw [nI_toInt (by omega)] at c
        have il : i < (lnK A l).1 := by omega
        refine ⟨(nI ((lnK A l).2.1 i), p9_refusals s9, r), (nI ((lnK A l).2.1 i), p10_refusals s10, a, b, f, nI (lnK A l).1, nI (begC A - (lnK A l).1)), ?_, ?_, rfl, ok _ _ _⟩
        · unfold m_X9_block m_X4_blockCount m_X4_blockAt
          rw [l9, Option.bind_some, if_neg (by decide), r1, Option.bind_some, if_neg m1, if_neg (nI_pos (by omega)), Option.bind_some]
          have e4 : p4_blocksNow (u4_loss r.2.2.2.2.2.2.2.2.2.2.2.2.2 (u4_mergesDone r.2.2.2.2.2.2.2.2.2.2.2.2.1 (u4_blocksNow r.2.2.2.2.2.2.2.2.2.2.2.1 (u4_bottoms r.2.2.2.2.2.2.2.2.2.2.1 (u4_tops r.2.2.2.2.2.2.2.2.2.1 (u4_blocks r.2.2.2.2.2.2.2.2.1 (u4_values (stVL (p9_standing s9) r) (p9_standing s9)))))))) = nI (lnK A l).1 := r4
          have e5 : m_X2_get 7 (p4_blocks (u4_loss r.2.2.2.2.2.2.2.2.2.2.2.2.2 (u4_mergesDone r.2.2.2.2.2.2.2.2.2.2.2.2.1 (u4_blocksNow r.2.2.2.2.2.2.2.2.2.2.2.1 (u4_bottoms r.2.2.2.2.2.2.2.2.2.2.1 (u4_tops r.2.2.2.2.2.2.2.2.2.1 (u4_blocks r.2.2.2.2.2.2.2.2.1 (u4_values (stVL (p9_standing s9) r) (p9_standing s9))))))))) (nI i) = some (nI ((lnK A l).2.1 i)) := by
            rw [get_in (by omega) (by decide)]
            exact congrArg some (r3 i il)
          rw [e4, if_pos ((nI_lti (by omega) (by omega)).mpr il), e5, Option.bind_some, Option.bind_some, Option.bind_some]
        · unfold m_X10_block
          rw [l10, Option.bind_some, if_neg (by decide), f1, Option.bind_some]
          simp only
          rw [inn, nI_toInt (by omega), if_pos (by omega), Option.bind_some, if_neg (by decide), if_pos (by rw [i_le, z32, nI_toInt (by omega)]; omega), if_pos (inb_nI (by omega) (by decide)), nI_clamp (by omega), f2 i il]
      · refine ⟨(-1, cnt (p9_refusals s9) 1, r), (-1, cnt (p10_refusals s10) 1, a, b, f, nI (lnK A l).1, nI (begC A - (lnK A l).1)), ?_, ?_, rfl, Rel_q rI rL rT rH (by dsimp only [keep9q, st_X9_block]) (by dsimp only [keep10, st_X10_block]) hok (by dsimp only [st_X9_block]; exact h6) (S10_mk h10 (by dsimp only [c10, st_X10_block])) (by dsimp only [st_X9_block, st_X10_block]; exact Req_cnt rR (by decide)) (by dsimp only [st_X9_block]; exact rS) (by dsimp only [RelB, st_X9_block]; exact rB)⟩
        · unfold m_X9_block m_X4_blockCount
          rw [l9, Option.bind_some, if_neg (by decide), r1, Option.bind_some, if_neg m1]
          have us : m_X9use (u9_standing (u4_loss r.2.2.2.2.2.2.2.2.2.2.2.2.2 (u4_mergesDone r.2.2.2.2.2.2.2.2.2.2.2.2.1 (u4_blocksNow r.2.2.2.2.2.2.2.2.2.2.2.1 (u4_bottoms r.2.2.2.2.2.2.2.2.2.2.1 (u4_tops r.2.2.2.2.2.2.2.2.2.1 (u4_blocks r.2.2.2.2.2.2.2.2.1 (u4_values (stVL (p9_standing s9) r) (p9_standing s9)))))))) s9) (-1) = some (-1, cnt (p9_refusals s9) 1) := use9 _ (k := 1) (by decide) (by decide)
          by_cases n : p2 < 0
          · rw [if_pos n, Option.bind_some]
            simp only
            rw [us, Option.bind_some]
          · have e4 : p4_blocksNow (u4_loss r.2.2.2.2.2.2.2.2.2.2.2.2.2 (u4_mergesDone r.2.2.2.2.2.2.2.2.2.2.2.2.1 (u4_blocksNow r.2.2.2.2.2.2.2.2.2.2.2.1 (u4_bottoms r.2.2.2.2.2.2.2.2.2.2.1 (u4_tops r.2.2.2.2.2.2.2.2.2.1 (u4_blocks r.2.2.2.2.2.2.2.2.1 (u4_values (stVL (p9_standing s9) r) (p9_standing s9)))))))) = nI (lnK A l).1 := r4
            rw [if_neg n, Option.bind_some, e4, if_neg (by rw [i_lt, nI_toInt (by omega)]; rw [i_lt, z32] at n; omega), Option.bind_some]
            simp only
            rw [us, Option.bind_some]
        · unfold m_X10_block
          rw [l10, Option.bind_some, if_neg (by decide), f1, Option.bind_some]
          simp only
          rw [inn, if_neg (by omega), Option.bind_some, if_pos rfl]
          have us : m_X10_no (u10_merged (nI (begC A - (lnK A l).1)) (u10_blocks (nI (lnK A l).1) (u10_block f (u10_numberDown b (u10_numberUp a s10))))) (-1) = some (-1, cnt (p10_refusals s10) 1) := no10 _ (k := 1) (by decide) (by decide)
          rw [us, Option.bind_some]
  · refine ⟨(-2, cnt (p9_refusals s9) 2, cur4 (p9_standing s9)), (-2, cnt (p10_refusals s10) 2, curM10 s10), ?_, ?_, rfl, A, hok, h6, h10, rI, rL, rT, rH, Req_cnt rR (by decide), rS, rB⟩
    · unfold m_X9_block
      rw [l9, Option.bind_some, if_pos rfl, use9 s9 (k := 2) (by decide) (by decide), Option.bind_some]
      rfl
    · unfold m_X10_block
      rw [l10, Option.bind_some, if_pos rfl, no10 s10 (k := 2) (by decide) (by decide), Option.bind_some]
      rfl
