/-! shelf: the call -/
theorem zro_in {f : Nat → Int64} {a k c : Nat} (h1 : a ≤ c) (h2 : c < a + k) : zro f a k c = 0 := by
  unfold zro
  rw [if_pos ⟨h1, h2⟩]
theorem zro_out {f : Nat → Int64} {a k c : Nat} (h : c < a ∨ a + k ≤ c) : zro f a k c = f c := by
  unfold zro
  rw [if_neg (by omega)]
theorem op_shelf : OP_shelf Rel := by
  intro s9 s10 p1 p2 ⟨A, hok, h6, h10, rI, rL, rT, rH, rR, rS, rB⟩
  rcases shelf_cases (p9_shelves s9) p1 with ⟨j, hj, rfl, e9, e10⟩ | ⟨e9, e10⟩
  · by_cases c1 : p2 ≤ 20
    · by_cases c2 : 0 ≤ p2
      · obtain ⟨n, hn, rfl⟩ := num_of (x := p2) (m := 20) (by rw [i_le, z32] at c2; exact c2) (by rw [i_le, show (20 : Int32).toInt = 20 from rfl] at c1; omega)
        have ib : inb (nI j) 4 = true := inb_nI hj (by decide)
        refine ⟨(1, zro (p7_cells (p9_shelves s9)) (20 * j) n, upd (p7_sizes (p9_shelves s9)) j (nI n), upd (p7_made (p9_shelves s9)) j 1, p9_refusals s9), (1, upd (p10_places s10) j (nI n), zro (p10_cell s10) (20 * j) 20, p10_refusals s10), ?_, ?_, rfl, Rel_mkH rI rL rT rS rB (by dsimp only [st_X9_shelf, u9_refusals, u9_shelves, p9_kept]) (by dsimp only [st_X9_shelf, u9_refusals, u9_shelves, p9_isKept]) (by dsimp only [st_X9_shelf, u9_refusals, u9_shelves, p9_letters]) (by dsimp only [st_X9_shelf, u9_refusals, u9_shelves, p9_told]) (by dsimp only [st_X9_shelf, u9_refusals, u9_shelves, p9_toldCount]) (by dsimp only [st_X9_shelf, u9_refusals, u9_shelves, p9_said]) (by dsimp only [st_X9_shelf, u9_refusals, u9_shelves, p9_byRules]) (by dsimp only [st_X10_shelf, u10_refusals, u10_cell, u10_places, p10_hasImage]) (by dsimp only [st_X10_shelf, u10_refusals, u10_cell, u10_places, p10_imaged]) (by dsimp only [st_X10_shelf, u10_refusals, u10_cell, u10_places, p10_letters]) (by dsimp only [st_X10_shelf, u10_refusals, u10_cell, u10_places, p10_letter]) (by dsimp only [st_X10_shelf, u10_refusals, u10_cell, u10_places, p10_tolds]) (by dsimp only [st_X10_shelf, u10_refusals, u10_cell, u10_places, p10_told]) hok (by dsimp only [st_X9_shelf, u9_refusals, u9_shelves, p9_now]; exact h6) ?_ ?_ (by dsimp only [st_X9_shelf, st_X10_shelf, u9_refusals, u9_shelves, p9_refusals, u10_refusals, u10_cell, u10_places, p10_refusals]; exact rR)⟩
        · unfold m_X9_shelf
          rw [e9, Option.bind_some, if_neg (by decide), if_pos c1, if_pos c2, make7 hj hn, Option.bind_some]
        · unfold m_X10_shelf
          rw [e10, Option.bind_some, if_neg (by decide), if_pos c1, if_pos c2, if_pos ib, wipe10 hj, Option.bind_some, nI_clamp (by omega)]
        · obtain ⟨b1, ⟨b2, b3, b4, b5, b6⟩, ⟨b7, b8, b9⟩, ⟨b10, b11⟩, b12⟩ := h10
          exact ⟨b1, ⟨b2, b3, b4, b5, b6⟩, ⟨b7, b8, b9⟩, ⟨b10, b11⟩, b12⟩
        · intro j' hj'
          show (upd (p7_made (p9_shelves s9)) j 1 j' = 0 ∧ upd (p10_places s10) j (nI n) j' = -1) ∨ (upd (p7_made (p9_shelves s9)) j 1 j' = 1 ∧ ∃ n', n' ≤ 20 ∧ upd (p7_sizes (p9_shelves s9)) j (nI n) j' = nI n' ∧ upd (p10_places s10) j (nI n) j' = nI n' ∧ ∀ i, i < n' → zro (p7_cells (p9_shelves s9)) (20 * j) n (20 * j' + i) = zro (p10_cell s10) (20 * j) 20 (20 * j' + i))
          by_cases q : j' = j
          · subst q
            refine Or.inr ⟨upd_at, n, hn, upd_at, upd_at, fun i hi => ?_⟩
            rw [zro_in (by omega) (by omega), zro_in (by omega) (by omega)]
          · rw [upd_ne q, upd_ne q, upd_ne q]
            rcases rH j' hj' with ⟨k1, k2⟩ | ⟨k1, n', hn', k2, k3, k4⟩
            · exact Or.inl ⟨k1, k2⟩
            · refine Or.inr ⟨k1, n', hn', k2, k3, fun i hi => ?_⟩
              rw [zro_out (by omega), zro_out (by omega), k4 i hi]
      · refine ⟨(-14, p7_cells (p9_shelves s9), p7_sizes (p9_shelves s9), p7_made (p9_shelves s9), p9_refusals s9), (-14, p10_places s10, p10_cell s10, p10_refusals s10), ?_, ?_, rfl, A, hok, h6, h10, rI, rL, rT, rH, rR, rS, rB⟩
        · unfold m_X9_shelf
          rw [e9, Option.bind_some, if_neg (by decide), if_pos c1, if_neg c2]
        · unfold m_X10_shelf
          rw [e10, Option.bind_some, if_neg (by decide), if_pos c1, if_neg c2]
    · refine ⟨(-6, p7_cells (p9_shelves s9), p7_sizes (p9_shelves s9), p7_made (p9_shelves s9), cnt (p9_refusals s9) 6), (-6, p10_places s10, p10_cell s10, cnt (p10_refusals s10) 6), ?_, ?_, rfl, A, hok, h6, h10, rI, rL, rT, rH, Req_cnt rR (by decide), rS, rB⟩
      · unfold m_X9_shelf
        rw [e9, Option.bind_some, if_neg (by decide), if_neg c1, use9 (k := 6) _ (by decide) (by decide), Option.bind_some]
      · unfold m_X10_shelf
        rw [e10, Option.bind_some, if_neg (by decide), if_neg c1, no10 (k := 6) _ (by decide) (by decide), Option.bind_some]
  · refine ⟨(-1, p7_cells (p9_shelves s9), p7_sizes (p9_shelves s9), p7_made (p9_shelves s9), cnt (p9_refusals s9) 1), (-1, p10_places s10, p10_cell s10, cnt (p10_refusals s10) 1), ?_, ?_, rfl, A, hok, h6, h10, rI, rL, rT, rH, Req_cnt rR (by decide), rS, rB⟩
    · unfold m_X9_shelf
      rw [e9, Option.bind_some, if_pos rfl, use9 (k := 1) _ (by decide) (by decide), Option.bind_some]
    · unfold m_X10_shelf
      rw [e10, Option.bind_some, if_pos rfl, no10 (k := 1) _ (by decide) (by decide), Option.bind_some]
