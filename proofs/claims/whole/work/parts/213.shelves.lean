/-! shelves: look, put -/
theorem shelf_cases (s : T7) (x : Int32) : (∃ j, j < 4 ∧ x = nI j ∧ m_X7_has s x = some 1 ∧ m_X10_isShelf x = some 1) ∨ (m_X7_has s x = some 0 ∧ m_X10_isShelf x = some 0) := by
  unfold m_X7_has m_X10_isShelf
  rw [in10, z32, show (3 : Int32).toInt = 3 from rfl]
  by_cases c : 0 ≤ x.toInt ∧ x.toInt ≤ 3
  · refine Or.inl ⟨x.toInt.toNat, by omega, nI_ofInt c.1, ?_, ?_⟩
    · rw [if_neg, if_neg]
      · rw [i_le, show (4 : Int32).toInt = 4 from rfl]; omega
      · rw [i_lt, z32]; omega
    · rw [if_pos c, Option.bind_some]
  · refine Or.inr ⟨?_, by rw [if_neg c, Option.bind_some]⟩
    by_cases c1 : x < 0
    · rw [if_pos c1]
    · rw [if_neg c1, if_pos]
      rw [i_lt, z32] at c1
      rw [i_le, show (4 : Int32).toInt = 4 from rfl]; omega
