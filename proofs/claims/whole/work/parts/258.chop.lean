/-! change, worth, dearest -/
theorem op_change : OP_change Rel := by
  intro s9 s10 p1 p2 ⟨A, hok, h6, h10, rI, rL, rT, rH, rR, rS, rB⟩
  have bad : m_X9_change s9 p1 p2 = (m_X9useLong s9 (-2)).bind (fun x6 => some (x6.1, x6.2, snoc (cur0 (p9_byRules s9)) (p1_above (p9_fraction s9)) (p1_below (p9_fraction s9)))) → m_X10_change s10 p1 p2 = (m_X10_far s10 (-2)).bind (fun x8 => some (x8.1, x8.2, cur10 s10)) → ∃ u v, m_X9_change s9 p1 p2 = some u ∧ m_X10_change s10 p1 p2 = some v ∧ u.1 = v.1 ∧ Rel (st_X9_change s9 u) (st_X10_change s10 v) := by
    intro e9 e10
    rw [far9 s9 (k := 2) (by decide) (by decide), Option.bind_some] at e9
    rw [far10 s10 (k := 2) (by decide) (by decide), Option.bind_some] at e10
    exact ⟨_, _, e9, e10, rfl, Rel_q rI rL rT rH (by dsimp only [keep9q, st_X9_change]) (by dsimp only [keep10, st_X10_change]) hok (by dsimp only [st_X9_change]; exact h6) (S10_mk h10 (by dsimp only [c10, st_X10_change])) (by dsimp only [st_X9_change, st_X10_change]; exact Req_cnt rR (by decide)) (by dsimp only [st_X9_change]; exact rS) (by dsimp only [RelB, st_X9_change, snoc, cur0]; exact rB)⟩
  have f9 : ∀ s : T9, p9_refusals s = p9_refusals s9 → m_X9useLong s (-2) = m_X9useLong s9 (-2) := fun s e => by
    rw [far9 s (k := 2) (by decide) (by decide), far9 s9 (k := 2) (by decide) (by decide), e]
  have f10 : ∀ s : T10, p10_refusals s = p10_refusals s10 → m_X10_far s (-2) = m_X10_far s10 (-2) := fun s e => by
    rw [far10 s (k := 2) (by decide) (by decide), far10 s10 (k := 2) (by decide) (by decide), e]
  rcases loss_cases p1 with ⟨l, hl, rfl, w9, w10⟩ | ⟨w9, w10⟩
  · rcases part_cases p2 with ⟨pc, e9, e10⟩ | ⟨e9, e10⟩
    · have rl := rules_lt hok
      obtain ⟨r, r1, r2, r3⟩ := rules9 h6 hok rB hl
      obtain ⟨q, q1⟩ := changes10 h10 hok hl (T := 2 ^ hU A - 1) (W := 0) (by omega) (fun r hr => by rw [all_bit hr, Nat.zero_testBit]; rfl)
      refine ⟨(if p2 = 0 then J (chQ A l 0).num else J ((chQ A l 0).den : Int), p9_refusals s9, snoc r (J (chQ A l 0).num) (J ((chQ A l 0).den : Int))), (if p2 = 0 then J (chQ A l 0).num else J ((chQ A l 0).den : Int), p10_refusals s10, J (chQ A l 0).num, J ((chQ A l 0).den : Int), q), ?_, ?_, rfl, Rel_q rI rL rT rH (by dsimp only [keep9q, st_X9_change]) (by dsimp only [keep10, st_X10_change]) hok (by dsimp only [st_X9_change]; exact h6) (S10_mk h10 (by dsimp only [c10, st_X10_change])) (by dsimp only [st_X9_change, st_X10_change]; exact rR) (by dsimp only [st_X9_change]; exact rS) (by dsimp only [RelB, st_X9_change, snoc]; exact r3)⟩
      · unfold m_X9_change
        rw [w9, Option.bind_some, if_neg (by decide), e9, Option.bind_some, if_neg (by decide), r1, Option.bind_some, changes9 hok hl r2, Option.bind_some, fpart9, Option.bind_some, Option.bind_some]
        rfl
      · unfold m_X10_change
        have fp := fpart10 s10 (J (chQ A l 0).num, J ((chQ A l 0).den : Int), q) p2
        rw [w10, Option.bind_some, if_neg (by decide), isPart10, e10, Option.bind_some, if_neg (by decide), all10 h10 hok, Option.bind_some, q1, Option.bind_some, fp, Option.bind_some, Option.bind_some]
    · refine bad ?_ ?_
      · unfold m_X9_change
        rw [w9, Option.bind_some, if_neg (by decide), e9, Option.bind_some, if_pos rfl, Option.bind_some]
        simp only []
        rw [f9 _ rfl]
        rfl
      · unfold m_X10_change
        rw [w10, Option.bind_some, if_neg (by decide), isPart10, e10, Option.bind_some, if_pos rfl, Option.bind_some]
        simp only []
        rw [f10 _ rfl]
        rfl
  · refine bad ?_ ?_
    · unfold m_X9_change
      rw [w9, Option.bind_some, if_pos rfl, Option.bind_some]
      simp only []
      rw [f9 _ rfl]
      rfl
    · unfold m_X10_change
      rw [w10, Option.bind_some, if_pos rfl, Option.bind_some]
      simp only []
      rw [f10 _ rfl]
      rfl
