-- what the sheet takes of a statement, and what the reference does
theorem na_0 {s : T3} : m_X3_numberAt s 0 = some (p3_numbers s 0) := na9 (i := 0) (by decide)
theorem na_1 {s : T3} : m_X3_numberAt s 1 = some (p3_numbers s 1) := na9 (i := 1) (by decide)
theorem na_2 {s : T3} : m_X3_numberAt s 2 = some (p3_numbers s 2) := na9 (i := 2) (by decide)
def TD (s9 : T9) (u : Int32 × (Nat → Int32) × (Nat → Int32) × (Nat → Int32) × (Nat → Int32) × (Nat → Int32) × Int32 × (Nat → Int32) × (Nat → Int32) × Int32 × (Nat → Int32) × Int32 × Int32 × (Nat → Int32)) (v : Int32 × Int32 × (Nat → Int32) × (Nat → Int32) × (Nat → Int32) × (Nat → Int32) × (Nat → Int32) × Int32 × (Nat → Int32) × (Nat → Int32) × Int32 × (Nat → Int32) × Int32 × (Nat → Int32) × (Nat → Int32)) : Prop := (0 ≤ v.1 ∧ ∃ B, okS B ∧ Q12 u.2.2.2.2.2.2.1 u.2.1 u.2.2.1 u.2.2.2.1 u.2.2.2.2.1 u.2.2.2.2.2.1 u.2.2.2.2.2.2.2.2.2.1 u.2.2.2.2.2.2.2.1 u.2.2.2.2.2.2.2.2.1 u.2.2.2.2.2.2.2.2.2.2.2.1 u.2.2.2.2.2.2.2.2.2.2.1 u.2.2.2.2.2.2.2.2.2.2.2.2.1 B ∧ Q12 v.2.1 v.2.2.1 v.2.2.2.1 v.2.2.2.2.1 v.2.2.2.2.2.1 v.2.2.2.2.2.2.1 v.2.2.2.2.2.2.2.1 v.2.2.2.2.2.2.2.2.1 v.2.2.2.2.2.2.2.2.2.1 v.2.2.2.2.2.2.2.2.2.2.1 v.2.2.2.2.2.2.2.2.2.2.2.1 v.2.2.2.2.2.2.2.2.2.2.2.2.1 B ∧ Req (p9_refusals s9) v.2.2.2.2.2.2.2.2.2.2.2.2.2.1) ∨ (¬ 0 ≤ v.1 ∧ ∃ k, k < 7 ∧ -v.1 = nI k ∧ Req (cnt (p9_refusals s9) k) v.2.2.2.2.2.2.2.2.2.2.2.2.2.1)
theorem td_paper {s9 : T9} {t : T10} (h : Rel s9 t) {s3 : T3} (h3 : p3_word s3 = nI 0) (hg : ∀ i, i < 1 → p3_numbers s3 i = p10_number t i) : ∃ u v, m_X6_take (p9_now s9) s3 = some u ∧ m_X10_does t (nI 0) = some v ∧ u.1 = v.1 ∧ TD s9 u v := by
  obtain ⟨A, hok, q6, -⟩ := id h
  obtain ⟨u, v, hu, hv, he, B, okB, h6, h10, -, -, -, -, hR, -, -⟩ := op_paper s9 t (p10_number t 0) h
  unfold m_X9_paper at hu
  obtain ⟨r, hr, hu⟩ := Option.bind_eq_some_iff.1 hu
  obtain ⟨y, hy, hu⟩ := Option.bind_eq_some_iff.1 hu
  injection hu with hu
  subst hu
  obtain ⟨y1, yc⟩ := counted_cases hy (code_paper q6 hok hr)
  have he : y.1 = v.1 := he
  have hR : Req y.2 v.2.2.2.2.2.2.2 := hR
  have h6 : Q12 r.2.2.2.2.2.2 r.2.1 r.2.2.1 r.2.2.2.1 r.2.2.2.2.1 r.2.2.2.2.2.1 (p6_rules (p9_now s9)) (p6_lowers (p9_now s9)) (p6_uppers (p9_now s9)) (p6_boundCount (p9_now s9)) (p6_bounds (p9_now s9)) (p6_tieWay (p9_now s9)) B := h6
  have h10 : Q12 v.2.1 v.2.2.1 v.2.2.2.1 v.2.2.2.2.1 v.2.2.2.2.2.1 v.2.2.2.2.2.2.1 (p10_rules t) (p10_lower t) (p10_upper t) (p10_limits t) (p10_limit t) (p10_ties t) B := h10
  refine ⟨(r.1, r.2.1, r.2.2.1, r.2.2.2.1, r.2.2.2.2.1, r.2.2.2.2.2.1, r.2.2.2.2.2.2, p6_lowers (p9_now s9), p6_uppers (p9_now s9), p6_rules (p9_now s9), p6_bounds (p9_now s9), p6_boundCount (p9_now s9), p6_tieWay (p9_now s9), p6_reached (p9_now s9)), (v.1, v.2.1, v.2.2.1, v.2.2.2.1, v.2.2.2.2.1, v.2.2.2.2.2.1, v.2.2.2.2.2.2.1, p10_rules t, p10_lower t, p10_upper t, p10_limits t, p10_limit t, p10_ties t, v.2.2.2.2.2.2.2, p10_beneath t), ?_, ?_, y1.symm.trans he, ?_⟩
  · unfold m_X6_take m_X3_wordRead
    rw [na_0, Option.bind_some, na_1, Option.bind_some, Option.bind_some, h3, if_pos (show nI 0 = 0 by decide), hg 0 (by decide), hr, Option.bind_some]
  · unfold m_X10_does
    rw [if_pos (show nI 0 = 0 by decide), if_pos (show inb (0) 3 = true by decide)]
    show Option.bind (m_X10_paper t (p10_number t 0)) _ = _
    rw [hv, Option.bind_some]
  · rcases yc with ⟨c1, c2⟩ | ⟨c1, k, hk, c2, c3⟩
    · left
      refine ⟨?_, B, okB, h6, h10, ?_⟩
      · show 0 ≤ v.1
        rw [← he, y1]; exact c1
      · show Req _ v.2.2.2.2.2.2.2
        rw [c2] at hR; exact hR
    · right
      refine ⟨?_, k, hk, ?_, ?_⟩
      · show ¬ 0 ≤ v.1
        rw [← he, y1]; exact c1
      · show - v.1 = _
        rw [← he, y1]; exact c2
      · show Req _ v.2.2.2.2.2.2.2
        rw [c3] at hR; exact hR
theorem td_kind {s9 : T9} {t : T10} (h : Rel s9 t) {s3 : T3} (h3 : p3_word s3 = nI 1) (hg : ∀ i, i < 3 → p3_numbers s3 i = p10_number t i) : ∃ u v, m_X6_take (p9_now s9) s3 = some u ∧ m_X10_does t (nI 1) = some v ∧ u.1 = v.1 ∧ TD s9 u v := by
  obtain ⟨A, hok, q6, -⟩ := id h
  obtain ⟨u, v, hu, hv, he, B, okB, h6, h10, -, -, -, -, hR, -, -⟩ := op_kind s9 t (p10_number t 0) (p10_number t 1) (p10_number t 2) h
  unfold m_X9_kind at hu
  obtain ⟨r, hr, hu⟩ := Option.bind_eq_some_iff.1 hu
  obtain ⟨y, hy, hu⟩ := Option.bind_eq_some_iff.1 hu
  injection hu with hu
  subst hu
  obtain ⟨y1, yc⟩ := counted_cases hy (code_kind q6 hok hr)
  have he : y.1 = v.1 := he
  have hR : Req y.2 v.2.2.2 := hR
  have h6 : Q12 (p6_papers (p9_now s9)) (p6_raws (p9_now s9)) r.2.1 r.2.2 (p6_heavies (p9_now s9)) (p6_places (p9_now s9)) (p6_rules (p9_now s9)) (p6_lowers (p9_now s9)) (p6_uppers (p9_now s9)) (p6_boundCount (p9_now s9)) (p6_bounds (p9_now s9)) (p6_tieWay (p9_now s9)) B := h6
  have h10 : Q12 (p10_papers t) (p10_raw t) v.2.1 v.2.2.1 (p10_heavy t) (p10_place t) (p10_rules t) (p10_lower t) (p10_upper t) (p10_limits t) (p10_limit t) (p10_ties t) B := h10
  refine ⟨(r.1, p6_raws (p9_now s9), r.2.1, r.2.2, p6_heavies (p9_now s9), p6_places (p9_now s9), p6_papers (p9_now s9), p6_lowers (p9_now s9), p6_uppers (p9_now s9), p6_rules (p9_now s9), p6_bounds (p9_now s9), p6_boundCount (p9_now s9), p6_tieWay (p9_now s9), p6_reached (p9_now s9)), (v.1, p10_papers t, p10_raw t, v.2.1, v.2.2.1, p10_heavy t, p10_place t, p10_rules t, p10_lower t, p10_upper t, p10_limits t, p10_limit t, p10_ties t, v.2.2.2, p10_beneath t), ?_, ?_, y1.symm.trans he, ?_⟩
  · unfold m_X6_take m_X3_wordRead
    rw [na_0, Option.bind_some, na_1, Option.bind_some, Option.bind_some, h3, if_neg (show ¬ nI 1 = 0 by decide), if_pos (show nI 1 = 1 by decide), na_2, Option.bind_some, hg 0 (by decide), hg 1 (by decide), hg 2 (by decide), hr, Option.bind_some]
  · unfold m_X10_does
    rw [if_neg (show ¬ nI 1 = 0 by decide), if_pos (show nI 1 = 1 by decide), if_pos (show inb (0) 3 = true by decide), if_pos (show inb (1) 3 = true by decide), if_pos (show inb (2) 3 = true by decide)]
    show Option.bind (m_X10_kind t (p10_number t 0) (p10_number t 1) (p10_number t 2)) _ = _
    rw [hv, Option.bind_some]
  · rcases yc with ⟨c1, c2⟩ | ⟨c1, k, hk, c2, c3⟩
    · left
      refine ⟨?_, B, okB, h6, h10, ?_⟩
      · show 0 ≤ v.1
        rw [← he, y1]; exact c1
      · show Req _ v.2.2.2
        rw [c2] at hR; exact hR
    · right
      refine ⟨?_, k, hk, ?_, ?_⟩
      · show ¬ 0 ≤ v.1
        rw [← he, y1]; exact c1
      · show - v.1 = _
        rw [← he, y1]; exact c2
      · show Req _ v.2.2.2
        rw [c3] at hR; exact hR
theorem td_heavy {s9 : T9} {t : T10} (h : Rel s9 t) {s3 : T3} (h3 : p3_word s3 = nI 2) (hg : ∀ i, i < 2 → p3_numbers s3 i = p10_number t i) : ∃ u v, m_X6_take (p9_now s9) s3 = some u ∧ m_X10_does t (nI 2) = some v ∧ u.1 = v.1 ∧ TD s9 u v := by
  obtain ⟨A, hok, q6, -⟩ := id h
  obtain ⟨u, v, hu, hv, he, B, okB, h6, h10, -, -, -, -, hR, -, -⟩ := op_heavy s9 t (p10_number t 0) (p10_number t 1) h
  unfold m_X9_heavy at hu
  obtain ⟨r, hr, hu⟩ := Option.bind_eq_some_iff.1 hu
  obtain ⟨y, hy, hu⟩ := Option.bind_eq_some_iff.1 hu
  injection hu with hu
  subst hu
  obtain ⟨y1, yc⟩ := counted_cases hy (code_heavy q6 hok hr)
  have he : y.1 = v.1 := he
  have hR : Req y.2 v.2.2 := hR
  have h6 : Q12 (p6_papers (p9_now s9)) (p6_raws (p9_now s9)) (p6_kinds (p9_now s9)) (p6_figures (p9_now s9)) r.2 (p6_places (p9_now s9)) (p6_rules (p9_now s9)) (p6_lowers (p9_now s9)) (p6_uppers (p9_now s9)) (p6_boundCount (p9_now s9)) (p6_bounds (p9_now s9)) (p6_tieWay (p9_now s9)) B := h6
  have h10 : Q12 (p10_papers t) (p10_raw t) (p10_kind t) (p10_figure t) v.2.1 (p10_place t) (p10_rules t) (p10_lower t) (p10_upper t) (p10_limits t) (p10_limit t) (p10_ties t) B := h10
  refine ⟨(r.1, p6_raws (p9_now s9), p6_kinds (p9_now s9), p6_figures (p9_now s9), r.2, p6_places (p9_now s9), p6_papers (p9_now s9), p6_lowers (p9_now s9), p6_uppers (p9_now s9), p6_rules (p9_now s9), p6_bounds (p9_now s9), p6_boundCount (p9_now s9), p6_tieWay (p9_now s9), p6_reached (p9_now s9)), (v.1, p10_papers t, p10_raw t, p10_kind t, p10_figure t, v.2.1, p10_place t, p10_rules t, p10_lower t, p10_upper t, p10_limits t, p10_limit t, p10_ties t, v.2.2, p10_beneath t), ?_, ?_, y1.symm.trans he, ?_⟩
  · unfold m_X6_take m_X3_wordRead
    rw [na_0, Option.bind_some, na_1, Option.bind_some, Option.bind_some, h3, if_neg (show ¬ nI 2 = 0 by decide), if_neg (show ¬ nI 2 = 1 by decide), if_pos (show nI 2 = 2 by decide), hg 0 (by decide), hg 1 (by decide), hr, Option.bind_some]
  · unfold m_X10_does
    rw [if_neg (show ¬ nI 2 = 0 by decide), if_neg (show ¬ nI 2 = 1 by decide), if_pos (show nI 2 = 2 by decide), if_pos (show inb (0) 3 = true by decide), if_pos (show inb (1) 3 = true by decide)]
    show Option.bind (m_X10_heavy t (p10_number t 0) (p10_number t 1)) _ = _
    rw [hv, Option.bind_some]
  · rcases yc with ⟨c1, c2⟩ | ⟨c1, k, hk, c2, c3⟩
    · left
      refine ⟨?_, B, okB, h6, h10, ?_⟩
      · show 0 ≤ v.1
        rw [← he, y1]; exact c1
      · show Req _ v.2.2
        rw [c2] at hR; exact hR
    · right
      refine ⟨?_, k, hk, ?_, ?_⟩
      · show ¬ 0 ≤ v.1
        rw [← he, y1]; exact c1
      · show - v.1 = _
        rw [← he, y1]; exact c2
      · show Req _ v.2.2
        rw [c3] at hR; exact hR
theorem td_place {s9 : T9} {t : T10} (h : Rel s9 t) {s3 : T3} (h3 : p3_word s3 = nI 3) (hg : ∀ i, i < 2 → p3_numbers s3 i = p10_number t i) : ∃ u v, m_X6_take (p9_now s9) s3 = some u ∧ m_X10_does t (nI 3) = some v ∧ u.1 = v.1 ∧ TD s9 u v := by
  obtain ⟨A, hok, q6, -⟩ := id h
  obtain ⟨u, v, hu, hv, he, B, okB, h6, h10, -, -, -, -, hR, -, -⟩ := op_place s9 t (p10_number t 0) (p10_number t 1) h
  unfold m_X9_place at hu
  obtain ⟨r, hr, hu⟩ := Option.bind_eq_some_iff.1 hu
  obtain ⟨y, hy, hu⟩ := Option.bind_eq_some_iff.1 hu
  injection hu with hu
  subst hu
  obtain ⟨y1, yc⟩ := counted_cases hy (code_place q6 hok hr)
  have he : y.1 = v.1 := he
  have hR : Req y.2 v.2.2 := hR
  have h6 : Q12 (p6_papers (p9_now s9)) (p6_raws (p9_now s9)) (p6_kinds (p9_now s9)) (p6_figures (p9_now s9)) (p6_heavies (p9_now s9)) r.2 (p6_rules (p9_now s9)) (p6_lowers (p9_now s9)) (p6_uppers (p9_now s9)) (p6_boundCount (p9_now s9)) (p6_bounds (p9_now s9)) (p6_tieWay (p9_now s9)) B := h6
  have h10 : Q12 (p10_papers t) (p10_raw t) (p10_kind t) (p10_figure t) (p10_heavy t) v.2.1 (p10_rules t) (p10_lower t) (p10_upper t) (p10_limits t) (p10_limit t) (p10_ties t) B := h10
  refine ⟨(r.1, p6_raws (p9_now s9), p6_kinds (p9_now s9), p6_figures (p9_now s9), p6_heavies (p9_now s9), r.2, p6_papers (p9_now s9), p6_lowers (p9_now s9), p6_uppers (p9_now s9), p6_rules (p9_now s9), p6_bounds (p9_now s9), p6_boundCount (p9_now s9), p6_tieWay (p9_now s9), p6_reached (p9_now s9)), (v.1, p10_papers t, p10_raw t, p10_kind t, p10_figure t, p10_heavy t, v.2.1, p10_rules t, p10_lower t, p10_upper t, p10_limits t, p10_limit t, p10_ties t, v.2.2, p10_beneath t), ?_, ?_, y1.symm.trans he, ?_⟩
  · unfold m_X6_take m_X3_wordRead
    rw [na_0, Option.bind_some, na_1, Option.bind_some, Option.bind_some, h3, if_neg (show ¬ nI 3 = 0 by decide), if_neg (show ¬ nI 3 = 1 by decide), if_neg (show ¬ nI 3 = 2 by decide), if_pos (show nI 3 = 3 by decide), hg 0 (by decide), hg 1 (by decide), hr, Option.bind_some]
  · unfold m_X10_does
    rw [if_neg (show ¬ nI 3 = 0 by decide), if_neg (show ¬ nI 3 = 1 by decide), if_neg (show ¬ nI 3 = 2 by decide), if_pos (show nI 3 = 3 by decide), if_pos (show inb (0) 3 = true by decide), if_pos (show inb (1) 3 = true by decide)]
    show Option.bind (m_X10_place t (p10_number t 0) (p10_number t 1)) _ = _
    rw [hv, Option.bind_some]
  · rcases yc with ⟨c1, c2⟩ | ⟨c1, k, hk, c2, c3⟩
    · left
      refine ⟨?_, B, okB, h6, h10, ?_⟩
      · show 0 ≤ v.1
        rw [← he, y1]; exact c1
      · show Req _ v.2.2
        rw [c2] at hR; exact hR
    · right
      refine ⟨?_, k, hk, ?_, ?_⟩
      · show ¬ 0 ≤ v.1
        rw [← he, y1]; exact c1
      · show - v.1 = _
        rw [← he, y1]; exact c2
      · show Req _ v.2.2
        rw [c3] at hR; exact hR
theorem td_rule {s9 : T9} {t : T10} (h : Rel s9 t) {s3 : T3} (h3 : p3_word s3 = nI 4) (hg : ∀ i, i < 2 → p3_numbers s3 i = p10_number t i) : ∃ u v, m_X6_take (p9_now s9) s3 = some u ∧ m_X10_does t (nI 4) = some v ∧ u.1 = v.1 ∧ TD s9 u v := by
  obtain ⟨A, hok, q6, -⟩ := id h
  obtain ⟨u, v, hu, hv, he, B, okB, h6, h10, -, -, -, -, hR, -, -⟩ := op_rule s9 t (p10_number t 0) (p10_number t 1) h
  unfold m_X9_rule at hu
  obtain ⟨r, hr, hu⟩ := Option.bind_eq_some_iff.1 hu
  obtain ⟨y, hy, hu⟩ := Option.bind_eq_some_iff.1 hu
  injection hu with hu
  subst hu
  obtain ⟨y1, yc⟩ := counted_cases hy (code_rule q6 hok hr)
  have he : y.1 = v.1 := he
  have hR : Req y.2 v.2.2.2.2.1 := hR
  have h6 : Q12 (p6_papers (p9_now s9)) (p6_raws (p9_now s9)) (p6_kinds (p9_now s9)) (p6_figures (p9_now s9)) (p6_heavies (p9_now s9)) (p6_places (p9_now s9)) r.2.2.2.1 r.2.1 r.2.2.1 (p6_boundCount (p9_now s9)) (p6_bounds (p9_now s9)) (p6_tieWay (p9_now s9)) B := h6
  have h10 : Q12 (p10_papers t) (p10_raw t) (p10_kind t) (p10_figure t) (p10_heavy t) (p10_place t) v.2.1 v.2.2.1 v.2.2.2.1 (p10_limits t) (p10_limit t) (p10_ties t) B := h10
  refine ⟨(r.1, p6_raws (p9_now s9), p6_kinds (p9_now s9), p6_figures (p9_now s9), p6_heavies (p9_now s9), p6_places (p9_now s9), p6_papers (p9_now s9), r.2.1, r.2.2.1, r.2.2.2.1, p6_bounds (p9_now s9), p6_boundCount (p9_now s9), p6_tieWay (p9_now s9), r.2.2.2.2), (v.1, p10_papers t, p10_raw t, p10_kind t, p10_figure t, p10_heavy t, p10_place t, v.2.1, v.2.2.1, v.2.2.2.1, p10_limits t, p10_limit t, p10_ties t, v.2.2.2.2.1, v.2.2.2.2.2), ?_, ?_, y1.symm.trans he, ?_⟩
  · unfold m_X6_take m_X3_wordRead
    rw [na_0, Option.bind_some, na_1, Option.bind_some, Option.bind_some, h3, if_neg (show ¬ nI 4 = 0 by decide), if_neg (show ¬ nI 4 = 1 by decide), if_neg (show ¬ nI 4 = 2 by decide), if_neg (show ¬ nI 4 = 3 by decide), if_pos (show nI 4 = 4 by decide), hg 0 (by decide), hg 1 (by decide), hr, Option.bind_some]
  · unfold m_X10_does
    rw [if_neg (show ¬ nI 4 = 0 by decide), if_neg (show ¬ nI 4 = 1 by decide), if_neg (show ¬ nI 4 = 2 by decide), if_neg (show ¬ nI 4 = 3 by decide), if_pos (show nI 4 = 4 by decide), if_pos (show inb (0) 3 = true by decide), if_pos (show inb (1) 3 = true by decide)]
    show Option.bind (m_X10_rule t (p10_number t 0) (p10_number t 1)) _ = _
    rw [hv, Option.bind_some]
  · rcases yc with ⟨c1, c2⟩ | ⟨c1, k, hk, c2, c3⟩
    · left
      refine ⟨?_, B, okB, h6, h10, ?_⟩
      · show 0 ≤ v.1
        rw [← he, y1]; exact c1
      · show Req _ v.2.2.2.2.1
        rw [c2] at hR; exact hR
    · right
      refine ⟨?_, k, hk, ?_, ?_⟩
      · show ¬ 0 ≤ v.1
        rw [← he, y1]; exact c1
      · show - v.1 = _
        rw [← he, y1]; exact c2
      · show Req _ v.2.2.2.2.1
        rw [c3] at hR; exact hR
theorem td_free {s9 : T9} {t : T10} (h : Rel s9 t) {s3 : T3} (h3 : p3_word s3 = nI 5) (hg : ∀ i, i < 1 → p3_numbers s3 i = p10_number t i) : ∃ u v, m_X6_take (p9_now s9) s3 = some u ∧ m_X10_does t (nI 5) = some v ∧ u.1 = v.1 ∧ TD s9 u v := by
  obtain ⟨A, hok, q6, -⟩ := id h
  obtain ⟨u, v, hu, hv, he, B, okB, h6, h10, -, -, -, -, hR, -, -⟩ := op_free s9 t (p10_number t 0) h
  unfold m_X9_free at hu
  obtain ⟨r, hr, hu⟩ := Option.bind_eq_some_iff.1 hu
  obtain ⟨y, hy, hu⟩ := Option.bind_eq_some_iff.1 hu
  injection hu with hu
  subst hu
  obtain ⟨y1, yc⟩ := counted_cases hy (code_free q6 hok hr)
  have he : y.1 = v.1 := he
  have hR : Req y.2 v.2.2.2.2 := hR
  have h6 : Q12 (p6_papers (p9_now s9)) (p6_raws (p9_now s9)) (p6_kinds (p9_now s9)) (p6_figures (p9_now s9)) (p6_heavies (p9_now s9)) (p6_places (p9_now s9)) r.2.2.2 r.2.1 r.2.2.1 (p6_boundCount (p9_now s9)) (p6_bounds (p9_now s9)) (p6_tieWay (p9_now s9)) B := h6
  have h10 : Q12 (p10_papers t) (p10_raw t) (p10_kind t) (p10_figure t) (p10_heavy t) (p10_place t) v.2.1 v.2.2.1 v.2.2.2.1 (p10_limits t) (p10_limit t) (p10_ties t) B := h10
  refine ⟨(r.1, p6_raws (p9_now s9), p6_kinds (p9_now s9), p6_figures (p9_now s9), p6_heavies (p9_now s9), p6_places (p9_now s9), p6_papers (p9_now s9), r.2.1, r.2.2.1, r.2.2.2, p6_bounds (p9_now s9), p6_boundCount (p9_now s9), p6_tieWay (p9_now s9), p6_reached (p9_now s9)), (v.1, p10_papers t, p10_raw t, p10_kind t, p10_figure t, p10_heavy t, p10_place t, v.2.1, v.2.2.1, v.2.2.2.1, p10_limits t, p10_limit t, p10_ties t, v.2.2.2.2, p10_beneath t), ?_, ?_, y1.symm.trans he, ?_⟩
  · unfold m_X6_take m_X3_wordRead
    rw [na_0, Option.bind_some, na_1, Option.bind_some, Option.bind_some, h3, if_neg (show ¬ nI 5 = 0 by decide), if_neg (show ¬ nI 5 = 1 by decide), if_neg (show ¬ nI 5 = 2 by decide), if_neg (show ¬ nI 5 = 3 by decide), if_neg (show ¬ nI 5 = 4 by decide), if_pos (show nI 5 = 5 by decide), hg 0 (by decide), hr, Option.bind_some]
  · unfold m_X10_does
    rw [if_neg (show ¬ nI 5 = 0 by decide), if_neg (show ¬ nI 5 = 1 by decide), if_neg (show ¬ nI 5 = 2 by decide), if_neg (show ¬ nI 5 = 3 by decide), if_neg (show ¬ nI 5 = 4 by decide), if_pos (show nI 5 = 5 by decide), if_pos (show inb (0) 3 = true by decide)]
    show Option.bind (m_X10_free t (p10_number t 0)) _ = _
    rw [hv, Option.bind_some]
  · rcases yc with ⟨c1, c2⟩ | ⟨c1, k, hk, c2, c3⟩
    · left
      refine ⟨?_, B, okB, h6, h10, ?_⟩
      · show 0 ≤ v.1
        rw [← he, y1]; exact c1
      · show Req _ v.2.2.2.2
        rw [c2] at hR; exact hR
    · right
      refine ⟨?_, k, hk, ?_, ?_⟩
      · show ¬ 0 ≤ v.1
        rw [← he, y1]; exact c1
      · show - v.1 = _
        rw [← he, y1]; exact c2
      · show Req _ v.2.2.2.2
        rw [c3] at hR; exact hR
theorem td_limit {s9 : T9} {t : T10} (h : Rel s9 t) {s3 : T3} (h3 : p3_word s3 = nI 6) (hg : ∀ i, i < 1 → p3_numbers s3 i = p10_number t i) : ∃ u v, m_X6_take (p9_now s9) s3 = some u ∧ m_X10_does t (nI 6) = some v ∧ u.1 = v.1 ∧ TD s9 u v := by
  obtain ⟨A, hok, q6, -⟩ := id h
  obtain ⟨u, v, hu, hv, he, B, okB, h6, h10, -, -, -, -, hR, -, -⟩ := op_limit s9 t (p10_number t 0) h
  unfold m_X9_limit at hu
  obtain ⟨r, hr, hu⟩ := Option.bind_eq_some_iff.1 hu
  obtain ⟨y, hy, hu⟩ := Option.bind_eq_some_iff.1 hu
  injection hu with hu
  subst hu
  obtain ⟨y1, yc⟩ := counted_cases hy (code_limit q6 hok hr)
  have he : y.1 = v.1 := he
  have hR : Req y.2 v.2.2.2 := hR
  have h6 : Q12 (p6_papers (p9_now s9)) (p6_raws (p9_now s9)) (p6_kinds (p9_now s9)) (p6_figures (p9_now s9)) (p6_heavies (p9_now s9)) (p6_places (p9_now s9)) (p6_rules (p9_now s9)) (p6_lowers (p9_now s9)) (p6_uppers (p9_now s9)) r.2.2 r.2.1 (p6_tieWay (p9_now s9)) B := h6
  have h10 : Q12 (p10_papers t) (p10_raw t) (p10_kind t) (p10_figure t) (p10_heavy t) (p10_place t) (p10_rules t) (p10_lower t) (p10_upper t) v.2.1 v.2.2.1 (p10_ties t) B := h10
  refine ⟨(r.1, p6_raws (p9_now s9), p6_kinds (p9_now s9), p6_figures (p9_now s9), p6_heavies (p9_now s9), p6_places (p9_now s9), p6_papers (p9_now s9), p6_lowers (p9_now s9), p6_uppers (p9_now s9), p6_rules (p9_now s9), r.2.1, r.2.2, p6_tieWay (p9_now s9), p6_reached (p9_now s9)), (v.1, p10_papers t, p10_raw t, p10_kind t, p10_figure t, p10_heavy t, p10_place t, p10_rules t, p10_lower t, p10_upper t, v.2.1, v.2.2.1, p10_ties t, v.2.2.2, p10_beneath t), ?_, ?_, y1.symm.trans he, ?_⟩
  · unfold m_X6_take m_X3_wordRead
    rw [na_0, Option.bind_some, na_1, Option.bind_some, Option.bind_some, h3, if_neg (show ¬ nI 6 = 0 by decide), if_neg (show ¬ nI 6 = 1 by decide), if_neg (show ¬ nI 6 = 2 by decide), if_neg (show ¬ nI 6 = 3 by decide), if_neg (show ¬ nI 6 = 4 by decide), if_neg (show ¬ nI 6 = 5 by decide), if_pos (show nI 6 = 6 by decide), hg 0 (by decide), hr, Option.bind_some]
  · unfold m_X10_does
    rw [if_neg (show ¬ nI 6 = 0 by decide), if_neg (show ¬ nI 6 = 1 by decide), if_neg (show ¬ nI 6 = 2 by decide), if_neg (show ¬ nI 6 = 3 by decide), if_neg (show ¬ nI 6 = 4 by decide), if_neg (show ¬ nI 6 = 5 by decide), if_pos (show nI 6 = 6 by decide), if_pos (show inb (0) 3 = true by decide)]
    show Option.bind (m_X10_limit t (p10_number t 0)) _ = _
    rw [hv, Option.bind_some]
  · rcases yc with ⟨c1, c2⟩ | ⟨c1, k, hk, c2, c3⟩
    · left
      refine ⟨?_, B, okB, h6, h10, ?_⟩
      · show 0 ≤ v.1
        rw [← he, y1]; exact c1
      · show Req _ v.2.2.2
        rw [c2] at hR; exact hR
    · right
      refine ⟨?_, k, hk, ?_, ?_⟩
      · show ¬ 0 ≤ v.1
        rw [← he, y1]; exact c1
      · show - v.1 = _
        rw [← he, y1]; exact c2
      · show Req _ v.2.2.2
        rw [c3] at hR; exact hR
theorem td_ties {s9 : T9} {t : T10} (h : Rel s9 t) {s3 : T3} (h3 : p3_word s3 = nI 7) (hg : ∀ i, i < 1 → p3_numbers s3 i = p10_number t i) : ∃ u v, m_X6_take (p9_now s9) s3 = some u ∧ m_X10_does t (nI 7) = some v ∧ u.1 = v.1 ∧ TD s9 u v := by
  obtain ⟨A, hok, q6, -⟩ := id h
  obtain ⟨u, v, hu, hv, he, B, okB, h6, h10, -, -, -, -, hR, -, -⟩ := op_ties s9 t (p10_number t 0) h
  unfold m_X9_ties at hu
  obtain ⟨r, hr, hu⟩ := Option.bind_eq_some_iff.1 hu
  obtain ⟨y, hy, hu⟩ := Option.bind_eq_some_iff.1 hu
  injection hu with hu
  subst hu
  obtain ⟨y1, yc⟩ := counted_cases hy (code_ties q6 hok hr)
  have he : y.1 = v.1 := he
  have hR : Req y.2 v.2.2 := hR
  have h6 : Q12 (p6_papers (p9_now s9)) (p6_raws (p9_now s9)) (p6_kinds (p9_now s9)) (p6_figures (p9_now s9)) (p6_heavies (p9_now s9)) (p6_places (p9_now s9)) (p6_rules (p9_now s9)) (p6_lowers (p9_now s9)) (p6_uppers (p9_now s9)) (p6_boundCount (p9_now s9)) (p6_bounds (p9_now s9)) r.2 B := h6
  have h10 : Q12 (p10_papers t) (p10_raw t) (p10_kind t) (p10_figure t) (p10_heavy t) (p10_place t) (p10_rules t) (p10_lower t) (p10_upper t) (p10_limits t) (p10_limit t) v.2.1 B := h10
  refine ⟨(r.1, p6_raws (p9_now s9), p6_kinds (p9_now s9), p6_figures (p9_now s9), p6_heavies (p9_now s9), p6_places (p9_now s9), p6_papers (p9_now s9), p6_lowers (p9_now s9), p6_uppers (p9_now s9), p6_rules (p9_now s9), p6_bounds (p9_now s9), p6_boundCount (p9_now s9), r.2, p6_reached (p9_now s9)), (v.1, p10_papers t, p10_raw t, p10_kind t, p10_figure t, p10_heavy t, p10_place t, p10_rules t, p10_lower t, p10_upper t, p10_limits t, p10_limit t, v.2.1, v.2.2, p10_beneath t), ?_, ?_, y1.symm.trans he, ?_⟩
  · unfold m_X6_take m_X3_wordRead
    rw [na_0, Option.bind_some, na_1, Option.bind_some, Option.bind_some, h3, if_neg (show ¬ nI 7 = 0 by decide), if_neg (show ¬ nI 7 = 1 by decide), if_neg (show ¬ nI 7 = 2 by decide), if_neg (show ¬ nI 7 = 3 by decide), if_neg (show ¬ nI 7 = 4 by decide), if_neg (show ¬ nI 7 = 5 by decide), if_neg (show ¬ nI 7 = 6 by decide), if_pos (show nI 7 = 7 by decide), hg 0 (by decide), hr, Option.bind_some]
  · unfold m_X10_does
    rw [if_neg (show ¬ nI 7 = 0 by decide), if_neg (show ¬ nI 7 = 1 by decide), if_neg (show ¬ nI 7 = 2 by decide), if_neg (show ¬ nI 7 = 3 by decide), if_neg (show ¬ nI 7 = 4 by decide), if_neg (show ¬ nI 7 = 5 by decide), if_neg (show ¬ nI 7 = 6 by decide), if_pos (show inb (0) 3 = true by decide)]
    show Option.bind (m_X10_ties t (p10_number t 0)) _ = _
    rw [hv, Option.bind_some]
  · rcases yc with ⟨c1, c2⟩ | ⟨c1, k, hk, c2, c3⟩
    · left
      refine ⟨?_, B, okB, h6, h10, ?_⟩
      · show 0 ≤ v.1
        rw [← he, y1]; exact c1
      · show Req _ v.2.2
        rw [c2] at hR; exact hR
    · right
      refine ⟨?_, k, hk, ?_, ?_⟩
      · show ¬ 0 ≤ v.1
        rw [← he, y1]; exact c1
      · show - v.1 = _
        rw [← he, y1]; exact c2
      · show Req _ v.2.2
        rw [c3] at hR; exact hR
theorem take_does {s9 : T9} {t : T10} (h : Rel s9 t) {s3 : T3} {w : Nat} (hw : w < 8) (h3 : p3_word s3 = nI w) (hg : ∀ i, i < nmW w → p3_numbers s3 i = p10_number t i) : ∃ u v, m_X6_take (p9_now s9) s3 = some u ∧ m_X10_does t (nI w) = some v ∧ u.1 = v.1 ∧ TD s9 u v := by
  rcases (show w = 0 ∨ w = 1 ∨ w = 2 ∨ w = 3 ∨ w = 4 ∨ w = 5 ∨ w = 6 ∨ w = 7 by omega) with e | e | e | e | e | e | e | e
  · subst e; exact td_paper h h3 hg
  · subst e; exact td_kind h h3 hg
  · subst e; exact td_heavy h h3 hg
  · subst e; exact td_place h h3 hg
  · subst e; exact td_rule h h3 hg
  · subst e; exact td_free h h3 hg
  · subst e; exact td_limit h h3 hg
  · subst e; exact td_ties h h3 hg
