/-! look -/
theorem far9 (s : T9) {c : Int32} {k : Nat} (hk : k < 7) (hc : -c = nI k) : m_X9useLong s c = some ((4000000000000000000 : Int64) - c.toInt64, cnt (p9_refusals s) k) := by
  unfold m_X9useLong
  rw [use9 s hk hc, Option.bind_some]
theorem far10 (s : T10) {c : Int32} {k : Nat} (hk : k < 7) (hc : -c = nI k) : m_X10_far s c = some ((4000000000000000000 : Int64) - c.toInt64, cnt (p10_refusals s) k) := by
  unfold m_X10_far
  rw [no10 s hk hc, Option.bind_some]
theorem place_cases {s : T7} {t : T10} {j n : Nat} (hj : j < 4) (hn : n ≤ 20) (h1 : p7_sizes s j = nI n) (h2 : p10_places t j = nI n) (x : Int32) : (∃ i, i < n ∧ x = nI i ∧ m_X7_hasPlace s (nI j) x = some 1 ∧ m_X10_isPlace t (nI j) x = some 1) ∨ (m_X7_hasPlace s (nI j) x = some 0 ∧ m_X10_isPlace t (nI j) x = some 0) := by
  have g : m_X2_get 4 (p7_sizes s) (nI j) = some (nI n) := by rw [get_in hj (by decide), h1]
  unfold m_X7_hasPlace m_X10_isPlace
  rw [if_pos (inb_nI hj (by decide)), nI_clamp (by omega), h2, in10, z32, sub1_int (by omega), g]
  by_cases c : 0 ≤ x.toInt ∧ x.toInt ≤ (n : Int) - 1
  · refine Or.inl ⟨x.toInt.toNat, by omega, nI_ofInt c.1, ?_, by rw [if_pos c, Option.bind_some]⟩
    rw [if_neg (by rw [i_lt, z32]; omega), Option.bind_some, if_neg]
    rw [i_le, nI_toInt (by omega)]; omega
  · refine Or.inr ⟨?_, by rw [if_neg c, Option.bind_some]⟩
    by_cases c1 : x < 0
    · rw [if_pos c1]
    · rw [if_neg c1, Option.bind_some, if_pos]
      rw [i_lt, z32] at c1
      rw [i_le, nI_toInt (by omega)]; omega
theorem cell9 (j i : Nat) : nI j * 20 + nI i = nI (20 * j + i) := by
  rw [show (20 : Int32) = nI 20 from rfl, nI_mul, nI_add, Nat.mul_comm]
theorem cell10 (j i : Nat) : (20 : Int32) * nI j + nI i = nI (20 * j + i) := by
  rw [show (20 : Int32) = nI 20 from rfl, nI_mul, nI_add]
theorem get7 {s : T7} {j i : Nat} (h : 20 * j + i < 80) : m_X7_get s (nI j) (nI i) = some (p7_cells s (20 * j + i)) := by
  unfold m_X7_get
  rw [cell9, if_neg (nI_pos (by omega)), if_neg (by rw [i_le, nI_toInt (by omega), show (80 : Int32).toInt = 80 from rfl]; omega), if_pos (inb_nI h (by decide)), nI_clamp (by omega)]
theorem set7 {s : T7} {j i : Nat} {v : Int64} (h : 20 * j + i < 80) : m_X7_set s (nI j) (nI i) v = some (vp_updL (p7_cells s) (20 * j + i) v) := by
  unfold m_X7_set
  rw [cell9, if_neg (nI_pos (by omega)), if_neg (by rw [i_le, nI_toInt (by omega), show (80 : Int32).toInt = 80 from rfl]; omega), if_pos (inb_nI h (by decide)), nI_clamp (by omega)]
theorem op_look : OP_look Rel := by
  intro s9 s10 p1 p2 ⟨A, hok, h6, h10, rI, rL, rT, rH, rR, rS, rB⟩
  rcases shelf_cases (p9_shelves s9) p1 with ⟨j, hj, rfl, e9, e10⟩ | ⟨e9, e10⟩
  · have ib : inb (nI j) 4 = true := inb_nI hj (by decide)
    have cl : (nI j).toNatClampNeg = j := nI_clamp (by omega)
    have miss : m_X7_isMissing (p9_shelves s9) (nI j) = if p7_made (p9_shelves s9) j = 0 then some 1 else some 0 := by
      unfold m_X7_isMissing
      rw [get_in hj (by decide), Option.bind_some]
    have fin : ∀ x : Int64, m_X9_look s9 (nI j) p2 = some (x, p9_refusals s9) → m_X10_look s10 (nI j) p2 = some (x, p10_refusals s10) → ∃ u v, m_X9_look s9 (nI j) p2 = some u ∧ m_X10_look s10 (nI j) p2 = some v ∧ u.1 = v.1 ∧ Rel (st_X9_look s9 u) (st_X10_look s10 v) := fun x a b => ⟨_, _, a, b, rfl, A, hok, h6, h10, rI, rL, rT, rH, rR, rS, rB⟩
    rcases rH j hj with ⟨m1, m2⟩ | ⟨m1, n, hn, m2, m3, m4⟩
    · refine fin 4000000000000000011 ?_ ?_
      · unfold m_X9_look
        rw [e9, Option.bind_some, if_neg (by decide), miss, if_pos m1, Option.bind_some, if_neg (by decide)]
      · unfold m_X10_look
        rw [e10, Option.bind_some, if_neg (by decide), if_pos ib, cl, m2, if_neg (by decide)]
    · have d1 : ¬ p7_made (p9_shelves s9) j = 0 := by rw [m1]; decide
      have d2 : (0 : Int32) ≤ p10_places s10 j := by rw [m3, i_le, z32, nI_toInt (by omega)]; omega
      rcases place_cases hj hn m2 m3 p2 with ⟨i, hi, rfl, f9, f10⟩ | ⟨f9, f10⟩
      · refine fin (p10_cell s10 (20 * j + i)) ?_ ?_
        · unfold m_X9_look
          rw [e9, Option.bind_some, if_neg (by decide), miss, if_neg d1, Option.bind_some, if_pos rfl, f9, Option.bind_some, if_neg (by decide), get7 (by omega), Option.bind_some, m4 i hi]
        · unfold m_X10_look
          rw [e10, Option.bind_some, if_neg (by decide), if_pos ib, cl, if_pos d2, f10, Option.bind_some, if_neg (by decide), cell10, if_pos (inb_nI (by omega) (by decide)), nI_clamp (by omega)]
      · refine fin 4000000000000000013 ?_ ?_
        · unfold m_X9_look
          rw [e9, Option.bind_some, if_neg (by decide), miss, if_neg d1, Option.bind_some, if_pos rfl, f9, Option.bind_some, if_pos rfl]
        · unfold m_X10_look
          rw [e10, Option.bind_some, if_neg (by decide), if_pos ib, cl, if_pos d2, f10, Option.bind_some, if_pos rfl]
  · refine ⟨((4000000000000000000 : Int64) - (-1 : Int32).toInt64, cnt (p9_refusals s9) 1), ((4000000000000000000 : Int64) - (-1 : Int32).toInt64, cnt (p10_refusals s10) 1), ?_, ?_, rfl, A, hok, h6, h10, rI, rL, rT, rH, Req_cnt rR (by decide), rS, rB⟩
    · unfold m_X9_look
      rw [e9, Option.bind_some, if_pos rfl, far9 (k := 1) _ (by decide) (by decide), Option.bind_some]
    · unfold m_X10_look
      rw [e10, Option.bind_some, if_pos rfl, far10 (k := 1) _ (by decide) (by decide), Option.bind_some]
