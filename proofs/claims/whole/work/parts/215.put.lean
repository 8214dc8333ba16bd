/-! put -/
theorem updL_at {f : Nat → Int64} {k : Nat} {x : Int64} : vp_updL f k x k = x := by simp [vp_updL]
theorem updL_ne {f : Nat → Int64} {k j : Nat} {x : Int64} (h : j ≠ k) : vp_updL f k x j = f j := by simp [vp_updL, h]
theorem Rel_mkH {s9 s9' : T9} {s10 s10' : T10} (rI : RelI s9 s10) (rL : RelL s9 s10) (rT : RelT s9 s10) (rS : sbInv (p9_said s9)) (rB : RelB s9) (a_kept : p9_kept s9' = p9_kept s9) (a_isKept : p9_isKept s9' = p9_isKept s9) (a_letters : p9_letters s9' = p9_letters s9) (a_told : p9_told s9' = p9_told s9) (a_toldCount : p9_toldCount s9' = p9_toldCount s9) (a_said : p9_said s9' = p9_said s9) (a_byRules : p9_byRules s9' = p9_byRules s9) (b_hasImage : p10_hasImage s10' = p10_hasImage s10) (b_imaged : p10_imaged s10' = p10_imaged s10) (b_letters : p10_letters s10' = p10_letters s10) (b_letter : p10_letter s10' = p10_letter s10) (b_tolds : p10_tolds s10' = p10_tolds s10) (b_told : p10_told s10' = p10_told s10) {A : Sh} (hok : okS A) (h6 : S6 (p9_now s9') A) (h10 : S10 s10' A) (rH : RelH s9' s10') (rR : Req (p9_refusals s9') (p10_refusals s10')) : Rel s9' s10' := by
  refine ⟨A, hok, h6, h10, ?_, ?_, ?_, rH, rR, ?_, ?_⟩
  · unfold RelI
    rw [a_kept, a_isKept, b_hasImage, b_imaged]
    exact rI
  · unfold RelL
    rw [a_letters, b_letters, b_letter]
    exact rL
  · unfold RelT
    rw [a_told, a_toldCount, b_tolds, b_told]
    exact rT
  · rw [a_said]
    exact rS
  · unfold RelB
    rw [a_byRules]
    exact rB
theorem op_put : OP_put Rel := by
  intro s9 s10 p1 p2 p3 ⟨A, hok, h6, h10, rI, rL, rT, rH, rR, rS, rB⟩
  rcases shelf_cases (p9_shelves s9) p1 with ⟨j, hj, rfl, e9, e10⟩ | ⟨e9, e10⟩
  · have ib : inb (nI j) 4 = true := inb_nI hj (by decide)
    have cl : (nI j).toNatClampNeg = j := nI_clamp (by omega)
    have miss : m_X7_isMissing (p9_shelves s9) (nI j) = if p7_made (p9_shelves s9) j = 0 then some 1 else some 0 := by
      unfold m_X7_isMissing
      rw [get_in hj (by decide), Option.bind_some]
    have fin : ∀ x : Int32, m_X9_put s9 (nI j) p2 p3 = some (x, p7_cells (p9_shelves s9), p9_refusals s9) → m_X10_put s10 (nI j) p2 p3 = some (x, p10_cell s10, p10_refusals s10) → ∃ u v, m_X9_put s9 (nI j) p2 p3 = some u ∧ m_X10_put s10 (nI j) p2 p3 = some v ∧ u.1 = v.1 ∧ Rel (st_X9_put s9 u) (st_X10_put s10 v) := fun x a b => ⟨_, _, a, b, rfl, A, hok, h6, h10, rI, rL, rT, rH, rR, rS, rB⟩
    rcases id (rH j hj) with ⟨m1, m2⟩ | ⟨m1, n, hn, m2, m3, m4⟩
    · refine fin (-11) ?_ ?_
      · unfold m_X9_put
        rw [e9, Option.bind_some, if_neg (by decide), miss, if_pos m1, Option.bind_some, if_neg (by decide)]
      · unfold m_X10_put
        rw [e10, Option.bind_some, if_neg (by decide), if_pos ib, cl, m2, if_neg (by decide)]
    · have d1 : ¬ p7_made (p9_shelves s9) j = 0 := by rw [m1]; decide
      have d2 : (0 : Int32) ≤ p10_places s10 j := by rw [m3, i_le, z32, nI_toInt (by omega)]; omega
      rcases place_cases hj hn m2 m3 p2 with ⟨i, hi, rfl, f9, f10⟩ | ⟨f9, f10⟩
      · refine ⟨(1, vp_updL (p7_cells (p9_shelves s9)) (20 * j + i) p3, p9_refusals s9), (1, vp_updL (p10_cell s10) (20 * j + i) p3, p10_refusals s10), ?_, ?_, rfl, Rel_mkH rI rL rT rS rB (by dsimp only [st_X9_put, u9_refusals, u9_shelves, p9_kept]) (by dsimp only [st_X9_put, u9_refusals, u9_shelves, p9_isKept]) (by dsimp only [st_X9_put, u9_refusals, u9_shelves, p9_letters]) (by dsimp only [st_X9_put, u9_refusals, u9_shelves, p9_told]) (by dsimp only [st_X9_put, u9_refusals, u9_shelves, p9_toldCount]) (by dsimp only [st_X9_put, u9_refusals, u9_shelves, p9_said]) (by dsimp only [st_X9_put, u9_refusals, u9_shelves, p9_byRules]) (by dsimp only [st_X10_put, u10_refusals, u10_cell, p10_hasImage]) (by dsimp only [st_X10_put, u10_refusals, u10_cell, p10_imaged]) (by dsimp only [st_X10_put, u10_refusals, u10_cell, p10_letters]) (by dsimp only [st_X10_put, u10_refusals, u10_cell, p10_letter]) (by dsimp only [st_X10_put, u10_refusals, u10_cell, p10_tolds]) (by dsimp only [st_X10_put, u10_refusals, u10_cell, p10_told]) hok (by dsimp only [st_X9_put, u9_refusals, u9_shelves, p9_now]; exact h6) ?_ ?_ (by dsimp only [st_X9_put, st_X10_put, u9_refusals, u9_shelves, p9_refusals, u10_refusals, u10_cell, p10_refusals]; exact rR)⟩
        · unfold m_X9_put
          rw [e9, Option.bind_some, if_neg (by decide), miss, if_neg d1, Option.bind_some, if_pos rfl, f9, Option.bind_some, if_neg (by decide), set7 (by omega), Option.bind_some]
        · unfold m_X10_put
          rw [e10, Option.bind_some, if_neg (by decide), if_pos ib, cl, if_pos d2, f10, Option.bind_some, if_neg (by decide), cell10, if_pos (inb_nI (by omega) (by decide)), nI_clamp (by omega)]
        · obtain ⟨b1, ⟨b2, b3, b4, b5, b6⟩, ⟨b7, b8, b9⟩, ⟨b10, b11⟩, b12⟩ := h10
          exact ⟨b1, ⟨b2, b3, b4, b5, b6⟩, ⟨b7, b8, b9⟩, ⟨b10, b11⟩, b12⟩
        · intro j' hj'
          rcases rH j' hj' with ⟨k1, k2⟩ | ⟨k1, n', hn', k2, k3, k4⟩
          · exact Or.inl ⟨k1, k2⟩
          · refine Or.inr ⟨k1, n', hn', k2, k3, fun i' hi' => ?_⟩
            show vp_updL (p7_cells (p9_shelves s9)) (20 * j + i) p3 (20 * j' + i') = vp_updL (p10_cell s10) (20 * j + i) p3 (20 * j' + i')
            by_cases q : 20 * j' + i' = 20 * j + i
            · rw [q, updL_at, updL_at]
            · rw [updL_ne q, updL_ne q, k4 i' hi']
      · refine fin (-13) ?_ ?_
        · unfold m_X9_put
          rw [e9, Option.bind_some, if_neg (by decide), miss, if_neg d1, Option.bind_some, if_pos rfl, f9, Option.bind_some, if_pos rfl]
        · unfold m_X10_put
          rw [e10, Option.bind_some, if_neg (by decide), if_pos ib, cl, if_pos d2, f10, Option.bind_some, if_pos rfl]
  · refine ⟨(-1, p7_cells (p9_shelves s9), cnt (p9_refusals s9) 1), (-1, p10_cell s10, cnt (p10_refusals s10) 1), ?_, ?_, rfl, A, hok, h6, h10, rI, rL, rT, rH, Req_cnt rR (by decide), rS, rB⟩
    · unfold m_X9_put
      rw [e9, Option.bind_some, if_pos rfl, use9 (k := 1) _ (by decide) (by decide), Option.bind_some]
    · unfold m_X10_put
      rw [e10, Option.bind_some, if_pos rfl, no10 (k := 1) _ (by decide) (by decide), Option.bind_some]
