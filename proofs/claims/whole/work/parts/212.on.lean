/-! on -/
theorem op_on : OP_on Rel := by
  intro s9 s10 ⟨A, hok, h6, h10, rI, rL, rT, rH, rR, rS, rB⟩
  rcases id rI with ⟨i1, i2⟩ | ⟨i1, i2, B, okB', q6, q10⟩
  · obtain ⟨a1, ⟨a2, a3, a4, a5, a6⟩, ⟨a7, a8, a9⟩, ⟨a10, a11⟩, a12⟩ := h6
    obtain ⟨b1, ⟨b2, b3, b4, b5, b6⟩, ⟨b7, b8, b9⟩, ⟨b10, b11⟩, b12⟩ := h10
    refine ⟨(-3, p6_raws (p9_now s9), p6_kinds (p9_now s9), p6_figures (p9_now s9), p6_heavies (p9_now s9), p6_places (p9_now s9), p6_papers (p9_now s9), p6_lowers (p9_now s9), p6_uppers (p9_now s9), p6_rules (p9_now s9), p6_bounds (p9_now s9), p6_boundCount (p9_now s9), p6_tieWay (p9_now s9), cnt (p9_refusals s9) 3), (-3, p10_papers s10, p10_raw s10, p10_kind s10, p10_figure s10, p10_heavy s10, p10_place s10, p10_rules s10, p10_lower s10, p10_upper s10, p10_limits s10, p10_limit s10, p10_ties s10, cnt (p10_refusals s10) 3), ?_, ?_, rfl, Rel_mk rI rL rT rH rS rB (by dsimp only [keep9, st_X9_on, u9_refusals, u9_now, p9_kept, p9_isKept, p9_letters, p9_told, p9_toldCount, p9_shelves, p9_said, p9_byRules]) (by dsimp only [keep10, st_X10_on, u10_refusals, u10_ties, u10_limit, u10_limits, u10_upper, u10_lower, u10_rules, u10_place, u10_heavy, u10_figure, u10_kind, u10_raw, u10_papers, p10_hasImage, p10_imaged, p10_letters, p10_letter, p10_tolds, p10_told, p10_places, p10_cell]) hok ⟨a1, ⟨a2, a3, a4, a5, a6⟩, ⟨a7, a8, a9⟩, ⟨a10, a11⟩, a12⟩ ⟨b1, ⟨b2, b3, b4, b5, b6⟩, ⟨b7, b8, b9⟩, ⟨b10, b11⟩, b12⟩ (by dsimp only [st_X9_on, st_X10_on, u9_refusals, p9_refusals, u10_refusals, p10_refusals]; exact Req_cnt rR (by decide))⟩
    · unfold m_X9_on
      rw [if_pos i1, use9 (k := 3) _ (by decide) (by decide), Option.bind_some]
    · unfold m_X10_on
      rw [if_pos i2, no10 (k := 3) _ (by decide) (by decide), Option.bind_some]
  · have n7 := okB'.1.1
    have n12 := okB'.2.1.1
    have n5 := okB'.2.2.1.1
    obtain ⟨u, e1, f6⟩ := copy6 (s := p9_now s9) q6 okB'
    obtain ⟨g1, d1, r1⟩ := again1 s10 (p10_raw s10) (p10_kind s10) (p10_figure s10) (p10_heavy s10) (p10_place s10)
    obtain ⟨g2, d2, r2⟩ := again2 s10 (p10_lower s10) (p10_upper s10)
    obtain ⟨g3, d3, r3⟩ := again3 s10 (p10_limit s10)
    obtain ⟨b1, ⟨b2, b3, b4, b5, b6⟩, ⟨b7, b8, b9⟩, ⟨b10, b11⟩, b12⟩ := q10
    have e2 : m_X10_again_0_0_14 s10 = some (p10_imaged s10 64, g1.1, g1.2.1, g1.2.2.1, g1.2.2.2.1, g1.2.2.2.2, p10_imaged s10 65, g2.1, g2.2, p10_imaged s10 66, g3, p10_imaged s10 67) := by
      unfold m_X10_again_0_0_14
      rw [d1, Option.bind_some, d2, Option.bind_some, d3, Option.bind_some, if_pos (by decide), if_pos (by decide), if_pos (by decide), if_pos (by decide)]
      rfl
    have z1 : ¬ p9_isKept s9 = 0 := by rw [i1]; decide
    have z2 : ¬ p10_hasImage s10 = 0 := by rw [i2]; decide
    have f1 : u.2.2.2.2.2.1 = nI (hN B) := f6.1
    refine ⟨(u.2.2.2.2.2.1, u.1, u.2.1, u.2.2.1, u.2.2.2.1, u.2.2.2.2.1, u.2.2.2.2.2.1, u.2.2.2.2.2.2.1, u.2.2.2.2.2.2.2.1, u.2.2.2.2.2.2.2.2.1, u.2.2.2.2.2.2.2.2.2.1, u.2.2.2.2.2.2.2.2.2.2.1, u.2.2.2.2.2.2.2.2.2.2.2, p9_refusals s9), (p10_imaged s10 64, p10_imaged s10 64, g1.1, g1.2.1, g1.2.2.1, g1.2.2.2.1, g1.2.2.2.2, p10_imaged s10 65, g2.1, g2.2, p10_imaged s10 66, g3, p10_imaged s10 67, p10_refusals s10), ?_, ?_, f1.trans b1.symm, Rel_mk rI rL rT rH rS rB (by dsimp only [keep9, st_X9_on, u9_refusals, u9_now, p9_kept, p9_isKept, p9_letters, p9_told, p9_toldCount, p9_shelves, p9_said, p9_byRules]) (by dsimp only [keep10, st_X10_on, u10_refusals, u10_ties, u10_limit, u10_limits, u10_upper, u10_lower, u10_rules, u10_place, u10_heavy, u10_figure, u10_kind, u10_raw, u10_papers, p10_hasImage, p10_imaged, p10_letters, p10_letter, p10_tolds, p10_told, p10_places, p10_cell]) (A := B) okB' f6 ?_ (by dsimp only [st_X9_on, st_X10_on, u9_refusals, p9_refusals, u10_refusals, p10_refusals]; exact rR)⟩
    · unfold m_X9_on m_X6_paperCount
      rw [if_neg z1, e1, Option.bind_some, Option.bind_some]
    · unfold m_X10_on
      rw [if_neg z2, e2, Option.bind_some]
    · refine ⟨b1, ⟨fun i hi => ((r1 i (by omega)).1).trans (b2 i hi), fun i hi => ((r1 i (by omega)).2.1).trans (b3 i hi), fun i hi => ((r1 i (by omega)).2.2.1).trans (b4 i hi), fun i hi => ((r1 i (by omega)).2.2.2.1).trans (b5 i hi), fun i hi => ((r1 i (by omega)).2.2.2.2).trans (b6 i hi)⟩, ⟨b7, fun i hi => ((r2 i ?_).1).trans (b8 i hi), fun i hi => ((r2 i ?_).2).trans (b9 i hi)⟩, ⟨b10, fun i hi => (r3 i ?_).trans (b11 i hi)⟩, b12⟩
      · have hi : i < hU B := hi
        omega
      · have hi : i < hU B := hi
        omega
      · have hi : i < hB B := hi
        omega
