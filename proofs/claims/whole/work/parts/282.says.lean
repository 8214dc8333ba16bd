-- the call says, for a paper
theorem op_says : OP_says Rel := by
  intro s9 s10 p1 p2 ⟨A, hok, h6, h10, rI, rL, rT, rH, rR, rS, rB⟩
  have n7 := hok.1.1
  rcases paper_cases h6 h10 hok p1 with ⟨p, hp, rfl, w9, w10⟩ | ⟨w9, w10⟩
  · obtain ⟨r, m, f, q, n, e9, t, r3⟩ := sayPaper9 h6 hok rB rS hp
    obtain ⟨a, b, g1, g2, g3, k, kn, e10, t'⟩ := sayAll10 h10 hok hp
    have hl := txtP_len hok hp
    have tn : n = nI (txtP A p).length := t.1
    have tk : kn = nI (txtP A p).length := t'.1
    have ln : m_J4_length_8abf5 (uSB_n n (uSB_l q (uSB_f f (uSB_m m (p9_said s9))))) = some n := rfl
    have m1 : (-1 : Int32).toInt = -1 := rfl
    have ki : m_X10_in p2 (-1) (kn - 1) = some (if -1 ≤ p2.toInt ∧ p2.toInt ≤ ((txtP A p).length : Int) - 1 then 1 else 0) := by
      rw [in10, tk, sub1_int (by omega), m1]
    by_cases c1 : p2 = -1
    · subst c1
      refine ⟨(n, p9_refusals s9, r.1, r.2.1, r.2.2.1, r.2.2.2.1, r.2.2.2.2.1, r.2.2.2.2.2.1, r.2.2.2.2.2.2.1, r.2.2.2.2.2.2.2.1, r.2.2.2.2.2.2.2.2.1, r.2.2.2.2.2.2.2.2.2.1, r.2.2.2.2.2.2.2.2.2.2.1, r.2.2.2.2.2.2.2.2.2.2.2.1, r.2.2.2.2.2.2.2.2.2.2.2.2.1, r.2.2.2.2.2.2.2.2.2.2.2.2.2.1, r.2.2.2.2.2.2.2.2.2.2.2.2.2.2.1, r.2.2.2.2.2.2.2.2.2.2.2.2.2.2.2, m, f, q, n), (kn, p10_refusals s10, a, b, g1, g2, g3, k, kn), ?_, ?_, tn.trans tk.symm, fun ga => Rel_q rI rL rT rH (by dsimp only [keep9q, st_X9_says]) (by dsimp only [keep10, st_X10_says]) hok (by dsimp only [st_X9_says]; exact h6) (S10_mk h10 (by dsimp only [c10, st_X10_says])) (by dsimp only [st_X9_says, st_X10_says]; exact rR) (by dsimp only [st_X9_says]; exact sb_of t (by omega) _ _) (by dsimp only [RelB, st_X9_says]; exact r3)⟩
      · unfold m_X9_says
        rw [w9, Option.bind_some, if_neg (by decide), e9, Option.bind_some, if_pos rfl]
        dsimp only
        rw [ln, Option.bind_some]
      · unfold m_X10_says
        rw [w10, Option.bind_some, if_neg (by decide), e10, Option.bind_some]
        dsimp only
        rw [ki, if_pos ⟨by decide, by rw [m1]; omega⟩, Option.bind_some, if_neg (by decide), if_neg (by decide)]
    · by_cases c2 : 0 ≤ p2.toInt ∧ p2.toInt < ((txtP A p).length : Int)
      · obtain ⟨i, hi, rfl⟩ := num_of (x := p2) (m := 36) c2.1 (by omega)
        have hi2 : i < (txtP A p).length := by have := c2.2; rw [nI_toInt (by omega)] at this; omega
        have ca := tx_at (b := uSB_n n (uSB_l q (uSB_f f (uSB_m m (p9_said s9))))) t hi2
        have kc : k i = nI ((txtP A p).getD i 0) := t'.2.2 i hi2
        refine ⟨(nI ((txtP A p).getD i 0), p9_refusals s9, r.1, r.2.1, r.2.2.1, r.2.2.2.1, r.2.2.2.2.1, r.2.2.2.2.2.1, r.2.2.2.2.2.2.1, r.2.2.2.2.2.2.2.1, r.2.2.2.2.2.2.2.2.1, r.2.2.2.2.2.2.2.2.2.1, r.2.2.2.2.2.2.2.2.2.2.1, r.2.2.2.2.2.2.2.2.2.2.2.1, r.2.2.2.2.2.2.2.2.2.2.2.2.1, r.2.2.2.2.2.2.2.2.2.2.2.2.2.1, r.2.2.2.2.2.2.2.2.2.2.2.2.2.2.1, r.2.2.2.2.2.2.2.2.2.2.2.2.2.2.2, m, f, q, n), (k i, p10_refusals s10, a, b, g1, g2, g3, k, kn), ?_, ?_, kc.symm, fun ga => Rel_q rI rL rT rH (by dsimp only [keep9q, st_X9_says]) (by dsimp only [keep10, st_X10_says]) hok (by dsimp only [st_X9_says]; exact h6) (S10_mk h10 (by dsimp only [c10, st_X10_says])) (by dsimp only [st_X9_says, st_X10_says]; exact rR) (by dsimp only [st_X9_says]; exact sb_of t (by omega) _ _) (by dsimp only [RelB, st_X9_says]; exact r3)⟩
        · unfold m_X9_says
          rw [w9, Option.bind_some, if_neg (by decide), e9, Option.bind_some, if_neg c1, if_neg (show ¬ nI i < 0 from nI_pos (by omega))]
          dsimp only
          rw [ln, Option.bind_some, if_pos (show nI i < n by rw [tn]; exact (nI_lti (by omega) (by omega)).2 hi2), ca, Option.bind_some, Option.bind_some]
        · unfold m_X10_says
          rw [w10, Option.bind_some, if_neg (by decide), e10, Option.bind_some]
          dsimp only
          rw [ki, if_pos ⟨by omega, by omega⟩, Option.bind_some, if_neg (by decide), if_pos (by rw [i_le, z32]; exact c2.1), if_pos (inb_nI (by omega) (by decide)), nI_clamp (by omega)]
      · have c3 : ¬ (-1 ≤ p2.toInt ∧ p2.toInt ≤ ((txtP A p).length : Int) - 1) := by
          intro h
          have : p2.toInt ≠ -1 := fun e => c1 (by rw [i_eq, e]; rfl)
          omega
        refine ⟨(-1, cnt (p9_refusals s9) 1, r.1, r.2.1, r.2.2.1, r.2.2.2.1, r.2.2.2.2.1, r.2.2.2.2.2.1, r.2.2.2.2.2.2.1, r.2.2.2.2.2.2.2.1, r.2.2.2.2.2.2.2.2.1, r.2.2.2.2.2.2.2.2.2.1, r.2.2.2.2.2.2.2.2.2.2.1, r.2.2.2.2.2.2.2.2.2.2.2.1, r.2.2.2.2.2.2.2.2.2.2.2.2.1, r.2.2.2.2.2.2.2.2.2.2.2.2.2.1, r.2.2.2.2.2.2.2.2.2.2.2.2.2.2.1, r.2.2.2.2.2.2.2.2.2.2.2.2.2.2.2, m, f, q, n), (-1, cnt (p10_refusals s10) 1, a, b, g1, g2, g3, k, kn), ?_, ?_, rfl, fun ga => Rel_q rI rL rT rH (by dsimp only [keep9q, st_X9_says]) (by dsimp only [keep10, st_X10_says]) hok (by dsimp only [st_X9_says]; exact h6) (S10_mk h10 (by dsimp only [c10, st_X10_says])) (by dsimp only [st_X9_says, st_X10_says]; exact Req_cnt rR (by decide)) (by dsimp only [st_X9_says]; exact sb_of t (by omega) _ _) (by dsimp only [RelB, st_X9_says]; exact r3)⟩
        · have eb : (if p2 < 0 then some (Sum.inl ()) else if p2 < n then (m_J4_charAt_5068e (uSB_n n (uSB_l q (uSB_f f (uSB_m m (p9_said s9))))) p2).bind fun x10 => some (Sum.inr (x10, p9_refusals s9, r.1, r.2.1, r.2.2.1, r.2.2.2.1, r.2.2.2.2.1, r.2.2.2.2.2.1, r.2.2.2.2.2.2.1, r.2.2.2.2.2.2.2.1, r.2.2.2.2.2.2.2.2.1, r.2.2.2.2.2.2.2.2.2.1, r.2.2.2.2.2.2.2.2.2.2.1, r.2.2.2.2.2.2.2.2.2.2.2.1, r.2.2.2.2.2.2.2.2.2.2.2.2.1, r.2.2.2.2.2.2.2.2.2.2.2.2.2.1, r.2.2.2.2.2.2.2.2.2.2.2.2.2.2.1, r.2.2.2.2.2.2.2.2.2.2.2.2.2.2.2, m, f, q, n)) else some (Sum.inl ())) = some (Sum.inl ()) := by
            by_cases d : p2 < 0
            · rw [if_pos d]
            · rw [if_neg d, if_neg]
              rw [i_lt, z32] at d
              rw [i_lt, tn, nI_toInt (by omega)]
              omega
          unfold m_X9_says
          rw [w9, Option.bind_some, if_neg (by decide), e9, Option.bind_some, if_neg c1]
          dsimp only
          rw [ln]
          simp only [Option.bind_some]
          rw [eb, Option.bind_some]
          dsimp only
          rw [use9 (k := 1) _ (by decide) (by decide), Option.bind_some]
        · unfold m_X10_says
          rw [w10, Option.bind_some, if_neg (by decide), e10, Option.bind_some]
          dsimp only
          rw [ki, if_neg c3, Option.bind_some, if_pos rfl, no10 (k := 1) _ (by decide) (by decide), Option.bind_some]
  · refine ⟨(-1, cnt (p9_refusals s9) 1, p8_marks (p0_values (p9_byRules s9)), p8_weights (p0_values (p9_byRules s9)), p8_places (p0_values (p9_byRules s9)), p8_aboves (p0_values (p9_byRules s9)), p8_belows (p0_values (p9_byRules s9)), p1_above (p8_reduced (p0_values (p9_byRules s9))), p1_below (p8_reduced (p0_values (p9_byRules s9))), p8_papers (p0_values (p9_byRules s9)), p5_overs (p0_order (p9_byRules s9)), p5_unders (p0_order (p9_byRules s9)), p5_marks (p0_order (p9_byRules s9)), p5_wrongs (p0_order (p9_byRules s9)), p5_papers (p0_order (p9_byRules s9)), p0_sums (p9_byRules s9), p0_weighs (p9_byRules s9), p0_downs (p9_byRules s9), pSB_m (p9_said s9), pSB_f (p9_said s9), pSB_l (p9_said s9), pSB_n (p9_said s9)), (-1, cnt (p10_refusals s10) 1, p10_up s10, p10_down s10, p10_beneath s10, p10_valueUp s10, p10_valueDown s10, p10_said s10, p10_saids s10), ?_, ?_, rfl, fun ga => Rel_q rI rL rT rH (by dsimp only [keep9q, st_X9_says]) (by dsimp only [keep10, st_X10_says]) hok (by dsimp only [st_X9_says]; exact h6) (S10_mk h10 (by dsimp only [c10, st_X10_says])) (by dsimp only [st_X9_says, st_X10_says]; exact Req_cnt rR (by decide)) (by dsimp only [st_X9_says]; exact rS) (by dsimp only [RelB, st_X9_says]; exact rB)⟩
    · unfold m_X9_says
      rw [w9, Option.bind_some, if_pos rfl, use9 (k := 1) _ (by decide) (by decide), Option.bind_some]
    · unfold m_X10_says
      rw [w10, Option.bind_some, if_pos rfl, no10 (k := 1) _ (by decide) (by decide), Option.bind_some]
