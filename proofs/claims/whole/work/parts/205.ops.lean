/-! row, clear, letter -/
theorem Rel_mkT {s9 s9' : T9} {s10 s10' : T10} (rI : RelI s9 s10) (rL : RelL s9 s10) (rH : RelH s9 s10) (rS : sbInv (p9_said s9)) (rB : RelB s9) (a_kept : p9_kept s9' = p9_kept s9) (a_isKept : p9_isKept s9' = p9_isKept s9) (a_letters : p9_letters s9' = p9_letters s9) (a_shelves : p9_shelves s9' = p9_shelves s9) (a_said : p9_said s9' = p9_said s9) (a_byRules : p9_byRules s9' = p9_byRules s9) (b_hasImage : p10_hasImage s10' = p10_hasImage s10) (b_imaged : p10_imaged s10' = p10_imaged s10) (b_letters : p10_letters s10' = p10_letters s10) (b_letter : p10_letter s10' = p10_letter s10) (b_places : p10_places s10' = p10_places s10) (b_cell : p10_cell s10' = p10_cell s10) {A : Sh} (hok : okS A) (h6 : S6 (p9_now s9') A) (h10 : S10 s10' A) (rT : RelT s9' s10') (rR : Req (p9_refusals s9') (p10_refusals s10')) : Rel s9' s10' := by
  refine ⟨A, hok, h6, h10, ?_, ?_, ?_, ?_, rR, ?_, ?_⟩
  · unfold RelI
    rw [a_kept, a_isKept, b_hasImage, b_imaged]
    exact rI
  · unfold RelL
    rw [a_letters, b_letters, b_letter]
    exact rL
  · exact rT
  · unfold RelH
    rw [a_shelves, b_places, b_cell]
    exact rH
  · rw [a_said]
    exact rS
  · unfold RelB
    rw [a_byRules]
    exact rB
theorem Rel_mkL {s9 s9' : T9} {s10 s10' : T10} (rI : RelI s9 s10) (rT : RelT s9 s10) (rH : RelH s9 s10) (rS : sbInv (p9_said s9)) (rB : RelB s9) (a_kept : p9_kept s9' = p9_kept s9) (a_isKept : p9_isKept s9' = p9_isKept s9) (a_told : p9_told s9' = p9_told s9) (a_toldCount : p9_toldCount s9' = p9_toldCount s9) (a_shelves : p9_shelves s9' = p9_shelves s9) (a_said : p9_said s9' = p9_said s9) (a_byRules : p9_byRules s9' = p9_byRules s9) (b_hasImage : p10_hasImage s10' = p10_hasImage s10) (b_imaged : p10_imaged s10' = p10_imaged s10) (b_tolds : p10_tolds s10' = p10_tolds s10) (b_told : p10_told s10' = p10_told s10) (b_places : p10_places s10' = p10_places s10) (b_cell : p10_cell s10' = p10_cell s10) {A : Sh} (hok : okS A) (h6 : S6 (p9_now s9') A) (h10 : S10 s10' A) (rL : RelL s9' s10') (rR : Req (p9_refusals s9') (p10_refusals s10')) : Rel s9' s10' := by
  refine ⟨A, hok, h6, h10, ?_, ?_, ?_, ?_, rR, ?_, ?_⟩
  · unfold RelI
    rw [a_kept, a_isKept, b_hasImage, b_imaged]
    exact rI
  · exact rL
  · unfold RelT
    rw [a_told, a_toldCount, b_tolds, b_told]
    exact rT
  · unfold RelH
    rw [a_shelves, b_places, b_cell]
    exact rH
  · rw [a_said]
    exact rS
  · unfold RelB
    rw [a_byRules]
    exact rB
theorem op_row : OP_row Rel := by
  intro s9 s10 p1 ⟨A, hok, h6, h10, rI, rL, rT, rH, rR, rS, rB⟩
  obtain ⟨n, c, hn, t1, t2, hc, t3, t4⟩ := id rT
  by_cases c1 : (0 : Int32) ≤ p1
  · by_cases c2 : 999 < p1 ∨ n = 10
    · have c9 : ¬ 999 < p1 → ¬ p9_toldCount s9 < 10 ∧ p10_tolds s10 = 10 := by
        intro h
        rcases c2 with q | q
        · exact absurd q h
        · subst q
          exact ⟨by rw [t1]; decide, t2⟩
      refine ⟨(-6, p9_told s9, p9_toldCount s9, cnt (p9_refusals s9) 6), (-6, p10_told s10, p10_tolds s10, cnt (p10_refusals s10) 6), ?_, ?_, rfl, A, hok, h6, h10, rI, rL, rT, rH, Req_cnt rR (by decide), rS, rB⟩
      · unfold m_X9_row
        rw [if_pos c1]
        by_cases c3 : 999 < p1
        · rw [if_pos c3]
          simp only [Option.bind_some]
          rw [use9 (k := 6) _ (by decide) (by decide), Option.bind_some]
        · rw [if_neg c3, if_neg (c9 c3).1]
          simp only [Option.bind_some]
          rw [use9 (k := 6) _ (by decide) (by decide), Option.bind_some]
      · unfold m_X10_row
        rw [if_pos c1]
        by_cases c3 : 999 < p1
        · rw [if_pos c3]
          simp only [Option.bind_some]
          rw [no10 (k := 6) _ (by decide) (by decide), Option.bind_some]
        · rw [if_neg c3, if_pos (c9 c3).2]
          simp only [Option.bind_some]
          rw [no10 (k := 6) _ (by decide) (by decide), Option.bind_some]
    · have c3 : ¬ 999 < p1 := fun h => c2 (Or.inl h)
      have c4 : n < 10 := by
        rcases Nat.lt_or_ge n 10 with h | h
        · exact h
        · exact absurd (Or.inr (by omega)) c2
      have c1' := c1
      have c3' := c3
      rw [i_le, z32] at c1'
      rw [i_lt, i999] at c3'
      obtain ⟨v, hv, rfl⟩ := num_of (x := p1) (m := 999) c1' (by omega)
      refine ⟨(nI (n + 1), upd (p9_told s9) n (nI v), nI (n + 1), p9_refusals s9), (nI (n + 1), upd (p10_told s10) n (nI v), nI (n + 1), p10_refusals s10), ?_, ?_, rfl, Rel_mkT rI rL rH rS rB (by dsimp only [st_X9_row, u9_refusals, u9_toldCount, u9_told, p9_kept, p9_isKept, p9_letters, p9_told, p9_toldCount, p9_shelves, p9_said, p9_byRules]) (by dsimp only [st_X9_row, u9_refusals, u9_toldCount, u9_told, p9_kept, p9_isKept, p9_letters, p9_told, p9_toldCount, p9_shelves, p9_said, p9_byRules]) (by dsimp only [st_X9_row, u9_refusals, u9_toldCount, u9_told, p9_kept, p9_isKept, p9_letters, p9_told, p9_toldCount, p9_shelves, p9_said, p9_byRules]) (by dsimp only [st_X9_row, u9_refusals, u9_toldCount, u9_told, p9_kept, p9_isKept, p9_letters, p9_told, p9_toldCount, p9_shelves, p9_said, p9_byRules]) (by dsimp only [st_X9_row, u9_refusals, u9_toldCount, u9_told, p9_kept, p9_isKept, p9_letters, p9_told, p9_toldCount, p9_shelves, p9_said, p9_byRules]) (by dsimp only [st_X9_row, u9_refusals, u9_toldCount, u9_told, p9_kept, p9_isKept, p9_letters, p9_told, p9_toldCount, p9_shelves, p9_said, p9_byRules]) (by dsimp only [st_X10_row, u10_refusals, u10_tolds, u10_told, p10_hasImage, p10_imaged, p10_letters, p10_letter, p10_tolds, p10_told, p10_places, p10_cell]) (by dsimp only [st_X10_row, u10_refusals, u10_tolds, u10_told, p10_hasImage, p10_imaged, p10_letters, p10_letter, p10_tolds, p10_told, p10_places, p10_cell]) (by dsimp only [st_X10_row, u10_refusals, u10_tolds, u10_told, p10_hasImage, p10_imaged, p10_letters, p10_letter, p10_tolds, p10_told, p10_places, p10_cell]) (by dsimp only [st_X10_row, u10_refusals, u10_tolds, u10_told, p10_hasImage, p10_imaged, p10_letters, p10_letter, p10_tolds, p10_told, p10_places, p10_cell]) (by dsimp only [st_X10_row, u10_refusals, u10_tolds, u10_told, p10_hasImage, p10_imaged, p10_letters, p10_letter, p10_tolds, p10_told, p10_places, p10_cell]) (by dsimp only [st_X10_row, u10_refusals, u10_tolds, u10_told, p10_hasImage, p10_imaged, p10_letters, p10_letter, p10_tolds, p10_told, p10_places, p10_cell]) hok (by dsimp only [st_X9_row, u9_refusals, u9_toldCount, u9_told, p9_now]; exact h6) ?_ ⟨n + 1, fun j => if j = n then v else c j, by omega, rfl, rfl, ?_, ?_, ?_⟩ (by dsimp only [st_X9_row, st_X10_row, u9_refusals, u9_toldCount, u9_told, p9_refusals, u10_refusals, u10_tolds, u10_told, p10_refusals]; exact rR)⟩
      · unfold m_X9_row
        rw [if_pos c1, if_neg c3, if_pos (by rw [t1, i_lt, nI_toInt (by omega), i10]; omega), t1, set_in c4 (by decide), Option.bind_some, nI_1]
        simp only [Option.bind_some]
      · unfold m_X10_row
        rw [if_pos c1, if_neg c3, if_neg (by rw [t2, i_eq, nI_toInt (by omega), i10]; omega), if_pos (by rw [t2]; exact inb_nI c4 (by decide)), t2, nI_clamp (by omega), nI_1]
        simp only [Option.bind_some]
      · obtain ⟨q1, q2, ⟨q3, q4, q5⟩, ⟨q6, q7⟩, q8⟩ := h10
        exact ⟨q1, q2, ⟨q3, q4, q5⟩, ⟨q6, q7⟩, q8⟩
      · intro i hi
        show (if i = n then v else c i) < 1000
        by_cases e : i = n
        · rw [if_pos e]; omega
        · rw [if_neg e]; exact hc i (by omega)
      · exact Eqn_push t3 rfl
      · exact Eqn_push t4 rfl
  · refine ⟨(-4, p9_told s9, p9_toldCount s9, cnt (p9_refusals s9) 4), (-4, p10_told s10, p10_tolds s10, cnt (p10_refusals s10) 4), ?_, ?_, rfl, A, hok, h6, h10, rI, rL, rT, rH, Req_cnt rR (by decide), rS, rB⟩
    · unfold m_X9_row
      rw [if_neg c1, use9 (k := 4) _ (by decide) (by decide), Option.bind_some]
    · unfold m_X10_row
      rw [if_neg c1, no10 (k := 4) _ (by decide) (by decide), Option.bind_some]
theorem op_clear : OP_clear Rel := by
  intro s9 s10 ⟨A, hok, h6, h10, rI, rL, rT, rH, rR, rS, rB⟩
  obtain ⟨n, c, hn, t1, t2, hc, t3, t4⟩ := id rT
  exact ⟨(p9_toldCount s9, 0), (p10_tolds s10, 0), rfl, rfl, t1.trans t2.symm, A, hok, h6, h10, rI, rL, ⟨0, c, by decide, rfl, rfl, fun i hi => absurd hi (Nat.not_lt_zero i), fun i hi => absurd hi (Nat.not_lt_zero i), fun i hi => absurd hi (Nat.not_lt_zero i)⟩, rH, rR, rS, rB⟩
theorem op_letter : OP_letter Rel := by
  intro s9 s10 p1 ⟨A, hok, h6, h10, rI, rL, rT, rH, rR, rS, rB⟩
  obtain ⟨n, c, hn, t1, t2, hc, t3, t4⟩ := id rL
  have hfull : m_X3_isFull (p9_letters s9) = some (if n < 120 then 0 else 1) := by
    unfold m_X3_isFull
    rw [t1]
    by_cases q : n < 120
    · rw [if_pos q, if_pos (by rw [i_lt, nI_toInt (by omega), i120]; omega)]
    · rw [if_neg q, if_neg (by rw [i_lt, nI_toInt (by omega), i120]; omega)]
  by_cases c1 : (0 : Int32) ≤ p1
  · by_cases c2 : 255 < p1 ∨ n = 120
    · have c9 : ¬ 255 < p1 → ¬ n < 120 ∧ p10_letters s10 = 120 := by
        intro h
        rcases c2 with q | q
        · exact absurd q h
        · subst q
          exact ⟨by decide, t2⟩
      refine ⟨(-6, p3_signs (p9_letters s9), p3_size (p9_letters s9), cnt (p9_refusals s9) 6), (-6, p10_letter s10, p10_letters s10, cnt (p10_refusals s10) 6), ?_, ?_, rfl, A, hok, h6, h10, rI, rL, rT, rH, Req_cnt rR (by decide), rS, rB⟩
      · unfold m_X9_letter
        rw [if_pos c1]
        by_cases c3 : 255 < p1
        · rw [if_pos c3]
          simp only [Option.bind_some]
          rw [use9 (k := 6) _ (by decide) (by decide), Option.bind_some]
        · rw [if_neg c3, hfull, if_neg (c9 c3).1]
          simp only [Option.bind_some]
          rw [if_neg (by decide)]
          simp only [Option.bind_some]
          rw [use9 (k := 6) _ (by decide) (by decide), Option.bind_some]
      · unfold m_X10_letter
        rw [if_pos c1]
        by_cases c3 : 255 < p1
        · rw [if_pos c3]
          simp only [Option.bind_some]
          rw [no10 (k := 6) _ (by decide) (by decide), Option.bind_some]
        · rw [if_neg c3, if_pos (c9 c3).2]
          simp only [Option.bind_some]
          rw [no10 (k := 6) _ (by decide) (by decide), Option.bind_some]
    · have c3 : ¬ 255 < p1 := fun h => c2 (Or.inl h)
      have c4 : n < 120 := by
        rcases Nat.lt_or_ge n 120 with h | h
        · exact h
        · exact absurd (Or.inr (by omega)) c2
      have c1' := c1
      have c3' := c3
      rw [i_le, z32] at c1'
      rw [i_lt, i255] at c3'
      obtain ⟨v, hv, rfl⟩ := num_of (x := p1) (m := 255) c1' (by omega)
      refine ⟨(nI (n + 1), upd (p3_signs (p9_letters s9)) n (nI v), nI (n + 1), p9_refusals s9), (nI (n + 1), upd (p10_letter s10) n (nI v), nI (n + 1), p10_refusals s10), ?_, ?_, rfl, Rel_mkL rI rT rH rS rB (by dsimp only [st_X9_letter, u9_refusals, u9_letters, p9_kept, p9_isKept, p9_letters, p9_told, p9_toldCount, p9_shelves, p9_said, p9_byRules]) (by dsimp only [st_X9_letter, u9_refusals, u9_letters, p9_kept, p9_isKept, p9_letters, p9_told, p9_toldCount, p9_shelves, p9_said, p9_byRules]) (by dsimp only [st_X9_letter, u9_refusals, u9_letters, p9_kept, p9_isKept, p9_letters, p9_told, p9_toldCount, p9_shelves, p9_said, p9_byRules]) (by dsimp only [st_X9_letter, u9_refusals, u9_letters, p9_kept, p9_isKept, p9_letters, p9_told, p9_toldCount, p9_shelves, p9_said, p9_byRules]) (by dsimp only [st_X9_letter, u9_refusals, u9_letters, p9_kept, p9_isKept, p9_letters, p9_told, p9_toldCount, p9_shelves, p9_said, p9_byRules]) (by dsimp only [st_X9_letter, u9_refusals, u9_letters, p9_kept, p9_isKept, p9_letters, p9_told, p9_toldCount, p9_shelves, p9_said, p9_byRules]) (by dsimp only [st_X9_letter, u9_refusals, u9_letters, p9_kept, p9_isKept, p9_letters, p9_told, p9_toldCount, p9_shelves, p9_said, p9_byRules]) (by dsimp only [st_X10_letter, u10_refusals, u10_letters, u10_letter, p10_hasImage, p10_imaged, p10_letters, p10_letter, p10_tolds, p10_told, p10_places, p10_cell]) (by dsimp only [st_X10_letter, u10_refusals, u10_letters, u10_letter, p10_hasImage, p10_imaged, p10_letters, p10_letter, p10_tolds, p10_told, p10_places, p10_cell]) (by dsimp only [st_X10_letter, u10_refusals, u10_letters, u10_letter, p10_hasImage, p10_imaged, p10_letters, p10_letter, p10_tolds, p10_told, p10_places, p10_cell]) (by dsimp only [st_X10_letter, u10_refusals, u10_letters, u10_letter, p10_hasImage, p10_imaged, p10_letters, p10_letter, p10_tolds, p10_told, p10_places, p10_cell]) (by dsimp only [st_X10_letter, u10_refusals, u10_letters, u10_letter, p10_hasImage, p10_imaged, p10_letters, p10_letter, p10_tolds, p10_told, p10_places, p10_cell]) (by dsimp only [st_X10_letter, u10_refusals, u10_letters, u10_letter, p10_hasImage, p10_imaged, p10_letters, p10_letter, p10_tolds, p10_told, p10_places, p10_cell]) hok (by dsimp only [st_X9_letter, u9_refusals, u9_letters, p9_now]; exact h6) ?_ ⟨n + 1, fun j => if j = n then v else c j, by omega, rfl, rfl, ?_, ?_, ?_⟩ (by dsimp only [st_X9_letter, st_X10_letter, u9_refusals, u9_letters, p9_refusals, u10_refusals, u10_letters, u10_letter, p10_refusals]; exact rR)⟩
      · unfold m_X9_letter m_X3_add
        rw [if_pos c1, if_neg c3, hfull, if_pos c4]
        simp only [Option.bind_some]
        rw [if_pos trivial, t1, set_in c4 (by decide), nI_1]
        simp only [Option.bind_some]
      · unfold m_X10_letter
        rw [if_pos c1, if_neg c3, if_neg (by rw [t2, i_eq, nI_toInt (by omega), i120]; omega), if_pos (by rw [t2]; exact inb_nI c4 (by decide)), t2, nI_clamp (by omega), nI_1]
        simp only [Option.bind_some]
      · obtain ⟨q1, q2, ⟨q3, q4, q5⟩, ⟨q6, q7⟩, q8⟩ := h10
        exact ⟨q1, q2, ⟨q3, q4, q5⟩, ⟨q6, q7⟩, q8⟩
      · intro i hi
        show (if i = n then v else c i) < 256
        by_cases e : i = n
        · rw [if_pos e]; omega
        · rw [if_neg e]; exact hc i (by omega)
      · exact Eqn_push t3 rfl
      · exact Eqn_push t4 rfl
  · refine ⟨(-4, p3_signs (p9_letters s9), p3_size (p9_letters s9), cnt (p9_refusals s9) 4), (-4, p10_letter s10, p10_letters s10, cnt (p10_refusals s10) 4), ?_, ?_, rfl, A, hok, h6, h10, rI, rL, rT, rH, Req_cnt rR (by decide), rS, rB⟩
    · unfold m_X9_letter
      rw [if_neg c1, use9 (k := 4) _ (by decide) (by decide), Option.bind_some]
    · unfold m_X10_letter
      rw [if_neg c1, no10 (k := 4) _ (by decide) (by decide), Option.bind_some]
