/-! value, grade, binds, pool -/
abbrev T16 : Type := (Nat → Int32) × (Nat → Int32) × (Nat → Int32) × (Nat → Int32) × (Nat → Int32) × Int64 × Int64 × Int32 × (Nat → Int32) × (Nat → Int32) × (Nat → Int32) × (Nat → Int32) × Int32 × (Nat → Int32) × (Nat → Int32) × (Nat → Int32)
def cur0 (s : T0) : T16 := (p8_marks (p0_values s), p8_weights (p0_values s), p8_places (p0_values s), p8_aboves (p0_values s), p8_belows (p0_values s), p1_above (p8_reduced (p0_values s)), p1_below (p8_reduced (p0_values s)), p8_papers (p0_values s), p5_overs (p0_order s), p5_unders (p0_order s), p5_marks (p0_order s), p5_wrongs (p0_order s), p5_papers (p0_order s), p0_sums s, p0_weighs s, p0_downs s)
abbrev stV (s : T0) (r : T16) : T8 := u8_papers r.2.2.2.2.2.2.2.1 (u8_reduced (u1_below r.2.2.2.2.2.2.1 (u1_above r.2.2.2.2.2.1 (p8_reduced (p0_values s)))) (u8_belows r.2.2.2.2.1 (u8_aboves r.2.2.2.1 (u8_places r.2.2.1 (u8_weights r.2.1 (u8_marks r.1 (p0_values s)))))))
abbrev T5r : Type := Int64 × Int64 × (Nat → Int32) × (Nat → Int32) × (Nat → Int32)
abbrev stM (s : T10) (r : T5r) : T10 := u10_valueDown r.2.2.2.2 (u10_valueUp r.2.2.2.1 (u10_beneath r.2.2.1 (u10_down r.2.1 (u10_up r.1 s))))
def cur10 (s : T10) : T5r := (p10_up s, p10_down s, p10_beneath s, p10_valueUp s, p10_valueDown s)
theorem loss_cases (x : Int32) : (∃ l, l < 3 ∧ x = nI l ∧ m_X9_isLoss x = some 1 ∧ m_X10_isLoss x = some 1) ∨ (m_X9_isLoss x = some 0 ∧ m_X10_isLoss x = some 0) := by
  unfold m_X9_isLoss m_X10_isLoss
  rw [in10, z32, show (2 : Int32).toInt = 2 from rfl]
  by_cases c : 0 ≤ x.toInt ∧ x.toInt ≤ 2
  · refine Or.inl ⟨x.toInt.toNat, by omega, nI_ofInt c.1, ?_, by rw [if_pos c, Option.bind_some]⟩
    rw [if_neg, if_neg]
    · rw [i_lt, show (2 : Int32).toInt = 2 from rfl]; omega
    · rw [i_lt, z32]; omega
  · refine Or.inr ⟨?_, by rw [if_neg c, Option.bind_some]⟩
    by_cases c1 : x < 0
    · rw [if_pos c1]
    · rw [if_neg c1, if_pos]
      rw [i_lt, z32] at c1
      rw [i_lt, show (2 : Int32).toInt = 2 from rfl]; omega
theorem isPart10 (x : Int32) : m_X10_isPart x = m_X10_in x 0 1 := by
  unfold m_X10_isPart
  cases m_X10_in x 0 1 <;> rfl
theorem useLong9 (s : T9) {c : Int32} {k : Nat} (hk : k < 7) (hc : -c = nI k) : m_X9useLong s c = some (4000000000000000000 - c.toInt64, cnt (p9_refusals s) k) := by
  unfold m_X9useLong
  rw [use9 s hk hc, Option.bind_some]
theorem rules9 {s9 : T9} {A : Sh} (h6 : S6 (p9_now s9) A) (hok : okS A) (rB : RelB s9) {l : Nat} (hl : l < 3) : ∃ r : T16, m_X0_work (p9_byRules s9) (p9_now s9) (nI l) 0 = some r ∧ V9 (stV (p9_byRules s9) r) A (vU A l 0) (vD A l 0) ∧ (r.2.2.2.2.2.2.2.2.2.2.2.2.2.1 0 = 0 ∧ r.2.2.2.2.2.2.2.2.2.2.2.2.2.2.1 0 = 0 ∧ r.2.2.2.2.2.2.2.2.2.2.2.2.2.2.2 0 = 0) := values9 (p9_byRules s9) h6 hok rB hl (W := 0) (by decide)
theorem rules10 {s : T10} {A : Sh} (h : S10 s A) (hok : okS A) {l : Nat} (hl : l < 3) : ∃ r : T5r, m_X10_values s (nI l) (nI (2 ^ hU A - 1)) = some r ∧ V10 (stM s r) A (vU A l 0) (vD A l 0) := by
  have := rules_lt hok
  exact values10 h hok hl (W := 0) (by omega) (fun r hr => by rw [all_bit hr, Nat.zero_testBit]; rfl)
theorem why_cases {s9 : T9} {s10 : T10} {A : Sh} (h6 : S6 (p9_now s9) A) (h10 : S10 s10 A) (hok : okS A) (x y : Int32) : (∃ l p, l < 3 ∧ p < hN A ∧ x = nI l ∧ y = nI p ∧ m_X9_whyNoValue s9 x y = some 0 ∧ m_X10_isLoss x = some 1 ∧ m_X10_isPaper s10 y = some 1) ∨ (m_X9_whyNoValue s9 x y = some (-2) ∧ m_X10_isLoss x = some 0) ∨ (m_X9_whyNoValue s9 x y = some (-1) ∧ m_X10_isLoss x = some 1 ∧ m_X10_isPaper s10 y = some 0) := by
  unfold m_X9_whyNoValue
  rcases loss_cases x with ⟨l, hl, hx, e9, e10⟩ | ⟨e9, e10⟩
  · rw [e9, Option.bind_some, if_neg (by decide)]
    rcases paper_cases h6 h10 hok y with ⟨p, hp, hy, f6, f10⟩ | ⟨f6, f10⟩
    · rw [f6, Option.bind_some, if_neg (by decide)]
      exact Or.inl ⟨l, p, hl, hp, hx, hy, rfl, e10, f10⟩
    · rw [f6, Option.bind_some, if_pos rfl]
      exact Or.inr (Or.inr ⟨rfl, e10, f10⟩)
  · rw [e9, Option.bind_some, if_pos rfl]
    exact Or.inr (Or.inl ⟨rfl, e10⟩)
theorem partOf8 {s : T8} {A : Sh} {u d : Nat → Nat} (hok : okS A) (h : V9 s A u d) {p : Nat} (hp : p < hN A) (x : Int32) : m_X8_partOf s (nI p) x = if x = 0 then some (nI (u p)).toInt64 else some (nI (d p)).toInt64 := by
  have n7 := hok.1.1
  unfold m_X8_partOf
  rw [get_in (by omega) (by decide), Option.bind_some, get_in (by omega) (by decide), Option.bind_some, h.2.1 p hp, h.2.2 p hp]
theorem op_value : OP_value Rel := by
  intro s9 s10 p1 p2 p3 ⟨A, hok, h6, h10, rI, rL, rT, rH, rR, rS, rB⟩
  have n7 := hok.1.1
  have bad : ∀ (c : Int32) (k : Nat), k < 7 → -c = nI k → m_X9_value s9 p1 p2 p3 = (m_X9useLong s9 c).bind (fun x6 => some (x6.1, x6.2, cur0 (p9_byRules s9))) → m_X10_value s10 p1 p2 p3 = (m_X10_far s10 c).bind (fun x8 => some (x8.1, x8.2, cur10 s10)) → ∃ u v, m_X9_value s9 p1 p2 p3 = some u ∧ m_X10_value s10 p1 p2 p3 = some v ∧ u.1 = v.1 ∧ Rel (st_X9_value s9 u) (st_X10_value s10 v) := by
    intro c k hk hc e9 e10
    rw [useLong9 s9 hk hc, Option.bind_some] at e9
    rw [far10 s10 hk hc, Option.bind_some] at e10
    exact ⟨_, _, e9, e10, rfl, A, hok, h6, h10, rI, rL, rT, rH, Req_cnt rR hk, rS, rB⟩
  rcases why_cases (s9 := s9) h6 h10 hok p1 p2 with ⟨l, p, hl, hp, rfl, rfl, w9, w1, w2⟩ | ⟨w9, w1⟩ | ⟨w9, w1, w2⟩
  · rcases part_cases p3 with ⟨pc, e9, e10⟩ | ⟨e9, e10⟩
    · obtain ⟨r, r1, r2, r3⟩ := rules9 h6 hok rB hl
      obtain ⟨q, q1, q2⟩ := rules10 h10 hok hl
      have ib : inb (nI p) 7 = true := inb_nI (by omega) (by decide)
      refine ⟨(if p3 = 0 then (nI (vU A l 0 p)).toInt64 else (nI (vD A l 0 p)).toInt64, p9_refusals s9, r), (if p3 = 0 then (nI (vU A l 0 p)).toInt64 else (nI (vD A l 0 p)).toInt64, p10_refusals s10, q), ?_, ?_, rfl, Rel_q rI rL rT rH (by dsimp only [keep9q, st_X9_value]) (by dsimp only [keep10, st_X10_value]) hok (by dsimp only [st_X9_value]; exact h6) (S10_mk h10 (by dsimp only [c10, st_X10_value])) (by dsimp only [st_X9_value, st_X10_value]; exact rR) (by dsimp only [st_X9_value]; exact rS) (by dsimp only [RelB, st_X9_value]; exact r3)⟩
      · unfold m_X9_value
        rw [w9, Option.bind_some, if_pos rfl, e9, Option.bind_some, if_neg (by decide), Option.bind_some, if_pos rfl, r1, Option.bind_some, partOf8 hok r2 hp]
        by_cases c : p3 = 0
        · rw [if_pos c, if_pos c]; rfl
        · rw [if_neg c, if_neg c]; rfl
      · have u1 : q.2.2.2.1 p = nI (vU A l 0 p) := q2.2.1 p hp
        have u2 : q.2.2.2.2 p = nI (vD A l 0 p) := q2.2.2 p hp
        unfold m_X10_value
        rw [w1, Option.bind_some, if_neg (by decide), w2, Option.bind_some, if_neg (by decide), isPart10, e10, Option.bind_some, if_neg (by decide), all10 h10 hok, Option.bind_some, q1, Option.bind_some, nI_clamp (by omega), u1, u2]
        by_cases c : p3 = 0
        · rw [if_pos c, if_pos c, if_pos ib]
        · rw [if_neg c, if_neg c, if_pos ib]
    · refine bad (-2) 2 (by decide) (by decide) ?_ ?_
      · unfold m_X9_value
        rw [w9, Option.bind_some, if_pos rfl, e9, Option.bind_some, if_pos rfl, Option.bind_some, if_neg (by decide)]
        rfl
      · unfold m_X10_value
        rw [w1, Option.bind_some, if_neg (by decide), w2, Option.bind_some, if_neg (by decide), isPart10, e10, Option.bind_some, if_pos rfl]
        rfl
  · refine bad (-2) 2 (by decide) (by decide) ?_ ?_
    · unfold m_X9_value
      rw [w9, Option.bind_some, if_neg (by decide), Option.bind_some, if_neg (by decide)]
      rfl
    · unfold m_X10_value
      rw [w1, Option.bind_some, if_pos rfl]
      rfl
  · refine bad (-1) 1 (by decide) (by decide) ?_ ?_
    · unfold m_X9_value
      rw [w9, Option.bind_some, if_neg (by decide), Option.bind_some, if_neg (by decide)]
      rfl
    · unfold m_X10_value
      rw [w1, Option.bind_some, if_neg (by decide), w2, Option.bind_some, if_pos rfl]
      rfl
theorem gradeIn8 {s : T8} {t : T6} {A : Sh} {u d : Nat → Nat} (hok : okS A) (h : V9 s A u d) (h6 : S6 t A) {p : Nat} (hp : p < hN A) : m_X8_gradeIn s t (nI p) = some (nI (grd A (nI (u p)).toInt64 (nI (d p)).toInt64 (hB A))) := by
  have n7 := hok.1.1
  unfold m_X8_gradeIn
  rw [get_in (by omega) (by decide), Option.bind_some, get_in (by omega) (by decide), Option.bind_some, h.2.1 p hp, h.2.2 p hp, grade6 h6 hok, Option.bind_some]
theorem gradeBy10 {s : T10} {A : Sh} (h : S10 s A) (hok : okS A) {l p : Nat} (hl : l < 3) (hp : p < hN A) : ∃ q : T5r, m_X10_gradeBy s (nI l) (nI p) = some (nI (grd A (nI (vU A l 0 p)).toInt64 (nI (vD A l 0 p)).toInt64 (hB A)), q) ∧ V10 (stM s q) A (vU A l 0) (vD A l 0) := by
  have n7 := hok.1.1
  have ib : inb (nI p) 7 = true := inb_nI (by omega) (by decide)
  obtain ⟨q, q1, q2⟩ := rules10 h hok hl
  have u1 : q.2.2.2.1 p = nI (vU A l 0 p) := q2.2.1 p hp
  have u2 : q.2.2.2.2 p = nI (vD A l 0 p) := q2.2.2 p hp
  refine ⟨q, ?_, q2⟩
  unfold m_X10_gradeBy
  rw [all10 h hok, Option.bind_some, q1, Option.bind_some, if_pos ib, if_pos ib, nI_clamp (by omega), u1, u2, grade10 (s := stM s q) q2.1 hok, Option.bind_some]
theorem op_grade : OP_grade Rel := by
  intro s9 s10 p1 p2 ⟨A, hok, h6, h10, rI, rL, rT, rH, rR, rS, rB⟩
  have bad : ∀ (c : Int32) (k : Nat), k < 7 → -c = nI k → m_X9_grade s9 p1 p2 = (m_X9use s9 c).bind (fun x6 => some (x6.1, x6.2, cur0 (p9_byRules s9))) → m_X10_grade s10 p1 p2 = (m_X10_no s10 c).bind (fun x8 => some (x8.1, x8.2, cur10 s10)) → ∃ u v, m_X9_grade s9 p1 p2 = some u ∧ m_X10_grade s10 p1 p2 = some v ∧ u.1 = v.1 ∧ Rel (st_X9_grade s9 u) (st_X10_grade s10 v) := by
    intro c k hk hc e9 e10
    rw [use9 s9 hk hc, Option.bind_some] at e9
    rw [no10 s10 hk hc, Option.bind_some] at e10
    exact ⟨_, _, e9, e10, rfl, A, hok, h6, h10, rI, rL, rT, rH, Req_cnt rR hk, rS, rB⟩
  rcases why_cases (s9 := s9) h6 h10 hok p1 p2 with ⟨l, p, hl, hp, rfl, rfl, w9, w1, w2⟩ | ⟨w9, w1⟩ | ⟨w9, w1, w2⟩
  · obtain ⟨r, r1, r2, r3⟩ := rules9 h6 hok rB hl
    obtain ⟨q, q1, q2⟩ := gradeBy10 h10 hok hl hp
    refine ⟨(nI (grd A (nI (vU A l 0 p)).toInt64 (nI (vD A l 0 p)).toInt64 (hB A)), p9_refusals s9, r), (nI (grd A (nI (vU A l 0 p)).toInt64 (nI (vD A l 0 p)).toInt64 (hB A)), p10_refusals s10, q), ?_, ?_, rfl, Rel_q rI rL rT rH (by dsimp only [keep9q, st_X9_grade]) (by dsimp only [keep10, st_X10_grade]) hok (by dsimp only [st_X9_grade]; exact h6) (S10_mk h10 (by dsimp only [c10, st_X10_grade])) (by dsimp only [st_X9_grade, st_X10_grade]; exact rR) (by dsimp only [st_X9_grade]; exact rS) (by dsimp only [RelB, st_X9_grade]; exact r3)⟩
    · unfold m_X9_grade
      rw [w9, Option.bind_some, if_pos rfl, r1, Option.bind_some, gradeIn8 hok r2 h6 hp]
      rfl
    · unfold m_X10_grade
      rw [w1, Option.bind_some, if_neg (by decide), w2, Option.bind_some, if_neg (by decide), q1]
      rfl
  · refine bad (-2) 2 (by decide) (by decide) ?_ ?_
    · unfold m_X9_grade
      rw [w9, Option.bind_some, if_neg (by decide)]
      rfl
    · unfold m_X10_grade
      rw [w1, Option.bind_some, if_pos rfl]
      rfl
  · refine bad (-1) 1 (by decide) (by decide) ?_ ?_
    · unfold m_X9_grade
      rw [w9, Option.bind_some, if_neg (by decide)]
      rfl
    · unfold m_X10_grade
      rw [w1, Option.bind_some, if_neg (by decide), w2, Option.bind_some, if_pos rfl]
      rfl
