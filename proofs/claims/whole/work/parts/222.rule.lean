/-! rule -/
/-- what becomes of one rule more -/
theorem addRule6 {s : T6} {t : T10} {A : Sh} (h : S6 s A) (h10 : S10 t A) (hok : okS A) {x y : Int32} : (∃ a b g, a < hN A ∧ b < hN A ∧ a ≠ b ∧ x = nI a ∧ y = nI b ∧ ((m_X6_addRule s x y = some (nI (hU A), upd (p6_lowers s) (hU A) (nI a), upd (p6_uppers s) (hU A) (nI b), nI (hU A + 1), g) ∧ hU A < 12 ∧ ¬ thr A a b ∧ undB A 0 b a = false) ∨ (m_X6_addRule s x y = some (-3, p6_lowers s, p6_uppers s, p6_rules s, g) ∧ (thr A a b ∨ undB A 0 b a = true)) ∨ (m_X6_addRule s x y = some (-6, p6_lowers s, p6_uppers s, p6_rules s, g) ∧ hU A = 12 ∧ ¬ thr A a b ∧ undB A 0 b a = false)) ∧ m_X10_isPaper t x = some 1 ∧ m_X10_isPaper t y = some 1 ∧ x ≠ y) ∨ (m_X6_addRule s x y = some (-1, p6_lowers s, p6_uppers s, p6_rules s, p6_reached s) ∧ (m_X10_isPaper t x = some 0 ∨ (m_X10_isPaper t x = some 1 ∧ m_X10_isPaper t y = some 0) ∨ (m_X10_isPaper t x = some 1 ∧ m_X10_isPaper t y = some 1 ∧ x = y))) := by
  have n7 := hok.1.1
  have n12 := hok.2.1.1
  rcases two_cases h h10 hok x y with ⟨a, b, ha, hb, hab, rfl, rfl, e6, e1, e2, e3⟩ | ⟨e6, e10⟩
  · refine Or.inl ?_
    unfold m_X6_addRule
    obtain ⟨g, g1⟩ := isUnder6 h hok hb ha
    rcases there6 h hok ha hb with ⟨t1, t2⟩ | ⟨t1, t2⟩
    · refine ⟨a, b, p6_reached s, ha, hb, hab, rfl, rfl, Or.inr (Or.inl ⟨?_, Or.inl t2⟩), e1, e2, e3⟩
      rw [e6, Option.bind_some, if_neg (by decide), t1, Option.bind_some, if_neg (by decide)]
    · refine ⟨a, b, g, ha, hb, hab, rfl, rfl, ?_, e1, e2, e3⟩
      rw [e6, Option.bind_some, if_neg (by decide), t1, Option.bind_some, if_pos rfl, g1, Option.bind_some]
      cases u : undB A 0 b a with
      | true => exact Or.inr (Or.inl ⟨rfl, Or.inr rfl⟩)
      | false =>
        rcases Nat.lt_or_ge (hU A) 12 with w | w
        · refine Or.inl ⟨?_, w, t2, rfl⟩
          rw [if_neg (show ¬ (false = true) by decide), if_pos rfl, h.2.2.1.1, if_pos (by rw [i_lt, nI_toInt (by omega), show (12 : Int32).toInt = 12 from rfl]; omega), set_in w (by decide), Option.bind_some, set_in w (by decide), Option.bind_some, nI_1, nI_pred]
        · refine Or.inr (Or.inr ⟨?_, by omega, t2, rfl⟩)
          rw [if_neg (show ¬ (false = true) by decide), if_pos rfl, h.2.2.1.1, if_neg (by rw [i_lt, nI_toInt (by omega), show (12 : Int32).toInt = 12 from rfl]; omega)]
  · refine Or.inr ⟨?_, e10⟩
    unfold m_X6_addRule
    rw [e6, Option.bind_some, if_pos rfl]
theorem op_rule : OP_rule Rel := by
  intro s9 s10 p1 p2 ⟨A, hok, h6, h10, rI, rL, rT, rH, rR, rS, rB⟩
  have n7 := hok.1.1
  have n12 := hok.2.1.1
  obtain ⟨-, -, ⟨b1, b2, b3⟩, -⟩ := id h10
  rcases addRule6 h6 h10 hok (x := p1) (y := p2) with ⟨a, b, g, ha, hb, hab, rfl, rfl, cs, e1, e2, e3⟩ | ⟨e6, e10⟩
  · obtain ⟨k, k1⟩ := isUnder10 h10 hok hb ha
    rcases cs with ⟨e6, w1, w2, w3⟩ | ⟨e6, w⟩ | ⟨e6, w1, w2, w3⟩
    · have ib : inb (nI (hU A)) 12 = true := inb_nI w1 (by decide)
      refine ⟨(nI (hU A), upd (p6_lowers (p9_now s9)) (hU A) (nI a), upd (p6_uppers (p9_now s9)) (hU A) (nI b), nI (hU A + 1), g, p9_refusals s9), (nI (hU A), nI (hU A + 1), upd (p10_lower s10) (hU A) (nI a), upd (p10_upper s10) (hU A) (nI b), p10_refusals s10, k), ?_, ?_, rfl, Rel_q rI rL rT rH (by dsimp only [keep9q, st_X9_rule]) (by dsimp only [keep10, st_X10_rule]) (A := aRule A a b) (okRule hok ha hb hab w1) ?_ ?_ (by dsimp only [st_X9_rule, st_X10_rule]; exact rR) (by dsimp only [st_X9_rule]; exact rS) (by dsimp only [RelB, st_X9_rule]; exact rB)⟩
      · unfold m_X9_rule
        rw [e6, Option.bind_some, counted_pos _ (by omega), Option.bind_some]
      · unfold m_X10_rule
        rw [e1, Option.bind_some, if_neg (by decide), e2, Option.bind_some, if_neg (by decide), if_neg e3, k1, Option.bind_some, w3, if_neg (show ¬ (false = true) by decide), if_pos rfl]
        rcases there10 h10 hok ha hb with ⟨t1, t2⟩ | ⟨t1, t2⟩
        · exact absurd t2 w2
        · rw [t1, Option.bind_some]
          simp only []
          rw [b1, if_neg (by rw [i_eq, nI_toInt (by omega), show (12 : Int32).toInt = 12 from rfl]; omega), if_pos ib, if_pos ib, Option.bind_some, nI_1, nI_pred, nI_clamp (by omega)]
      · obtain ⟨a1, a2, ⟨a3, a4, a5⟩, a6⟩ := h6
        exact ⟨a1, a2, ⟨rfl, Eqn_push a4 rfl, Eqn_push a5 rfl⟩, a6⟩
      · obtain ⟨a1, a2, ⟨a3, a4, a5⟩, a6⟩ := h10
        exact ⟨a1, a2, ⟨rfl, Eqn_push a4 rfl, Eqn_push a5 rfl⟩, a6⟩
    · refine ⟨(-3, p6_lowers (p9_now s9), p6_uppers (p9_now s9), p6_rules (p9_now s9), g, cnt (p9_refusals s9) 3), (-3, p10_rules s10, p10_lower s10, p10_upper s10, cnt (p10_refusals s10) 3, k), ?_, ?_, rfl, Rel_q rI rL rT rH (by dsimp only [keep9q, st_X9_rule]) (by dsimp only [keep10, st_X10_rule]) hok (S6_reached h6 g) (S10_mk h10 (by dsimp only [c10, st_X10_rule])) (by dsimp only [st_X9_rule, st_X10_rule]; exact Req_cnt rR (by decide)) (by dsimp only [st_X9_rule]; exact rS) (by dsimp only [RelB, st_X9_rule]; exact rB)⟩
      · unfold m_X9_rule
        rw [e6, Option.bind_some, counted_neg (k := 3) (c := -3) _ (by decide) (by decide) (by decide) (by decide), Option.bind_some]
      · unfold m_X10_rule
        rw [e1, Option.bind_some, if_neg (by decide), e2, Option.bind_some, if_neg (by decide), if_neg e3, k1, Option.bind_some]
        cases u : undB A 0 b a with
        | true =>
          rw [if_pos rfl, if_neg (show ¬ (1 : Int32) = 0 by decide), no10 (k := 3) _ (by decide) (by decide), Option.bind_some, Option.bind_some]
        | false =>
          rw [if_neg (show ¬ (false = true) by decide), if_pos rfl]
          rcases there10 h10 hok ha hb with ⟨t1, t2⟩ | ⟨t1, t2⟩
          · rw [t1, Option.bind_some]
            simp only []
            rw [no10 (k := 3) _ (by decide) (by decide), Option.bind_some, Option.bind_some]
          · rcases w with w | w
            · exact absurd w t2
            · rw [u] at w; cases w
    · refine ⟨(-6, p6_lowers (p9_now s9), p6_uppers (p9_now s9), p6_rules (p9_now s9), g, cnt (p9_refusals s9) 6), (-6, p10_rules s10, p10_lower s10, p10_upper s10, cnt (p10_refusals s10) 6, k), ?_, ?_, rfl, Rel_q rI rL rT rH (by dsimp only [keep9q, st_X9_rule]) (by dsimp only [keep10, st_X10_rule]) hok (S6_reached h6 g) (S10_mk h10 (by dsimp only [c10, st_X10_rule])) (by dsimp only [st_X9_rule, st_X10_rule]; exact Req_cnt rR (by decide)) (by dsimp only [st_X9_rule]; exact rS) (by dsimp only [RelB, st_X9_rule]; exact rB)⟩
      · unfold m_X9_rule
        rw [e6, Option.bind_some, counted_neg (k := 6) (c := -6) _ (by decide) (by decide) (by decide) (by decide), Option.bind_some]
      · unfold m_X10_rule
        rw [e1, Option.bind_some, if_neg (by decide), e2, Option.bind_some, if_neg (by decide), if_neg e3, k1, Option.bind_some, w3, if_neg (show ¬ (false = true) by decide), if_pos rfl]
        rcases there10 h10 hok ha hb with ⟨t1, t2⟩ | ⟨t1, t2⟩
        · exact absurd t2 w2
        · rw [t1, Option.bind_some]
          simp only []
          rw [if_pos (by rw [b1, w1]; rfl), no10 (k := 6) _ (by decide) (by decide), Option.bind_some, Option.bind_some]
  · refine ⟨(-1, p6_lowers (p9_now s9), p6_uppers (p9_now s9), p6_rules (p9_now s9), p6_reached (p9_now s9), cnt (p9_refusals s9) 1), (-1, p10_rules s10, p10_lower s10, p10_upper s10, cnt (p10_refusals s10) 1, p10_beneath s10), ?_, ?_, rfl, A, hok, h6, h10, rI, rL, rT, rH, Req_cnt rR (by decide), rS, rB⟩
    · unfold m_X9_rule
      rw [e6, Option.bind_some, counted_neg (k := 1) (c := -1) _ (by decide) (by decide) (by decide) (by decide), Option.bind_some]
    · have fin : (m_X10_no (u10_beneath (p10_beneath s10) (u10_refusals (p10_refusals s10) (u10_upper (p10_upper s10) (u10_lower (p10_lower s10) (u10_rules (p10_rules s10) s10))))) (-1)).bind (fun x13 => some (x13.1, p10_rules s10, p10_lower s10, p10_upper s10, x13.2, p10_beneath s10)) = some ((-1 : Int32), p10_rules s10, p10_lower s10, p10_upper s10, cnt (p10_refusals s10) 1, p10_beneath s10) := by
        rw [no10 (k := 1) _ (by decide) (by decide), Option.bind_some]
      unfold m_X10_rule
      rcases e10 with e | ⟨e, e'⟩ | ⟨e, e', e''⟩
      · rw [e, Option.bind_some, if_pos rfl, Option.bind_some]
        exact fin
      · rw [e, Option.bind_some, if_neg (by decide), e', Option.bind_some, if_pos rfl, Option.bind_some]
        exact fin
      · rw [e, Option.bind_some, if_neg (by decide), e', Option.bind_some, if_neg (by decide), if_pos e'', Option.bind_some]
        exact fin
