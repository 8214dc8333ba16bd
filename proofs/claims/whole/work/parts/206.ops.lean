/-! of, ruleOf, count: grades by the limits, hindered rules -/
/-- the grade that n / d earns from the first k limits -/
def grd (A : Sh) (n d : Int64) : Nat → Nat
  | 0 => 0
  | k + 1 => grd A n d k + (if n < (nI (hM A k)).toInt64 * d then 0 else 1)
theorem grd_le (A : Sh) (n d : Int64) (k : Nat) : grd A n d k ≤ k := by
  induction k with
  | zero => exact Nat.le_refl _
  | succ k ih => rw [grd]; split <;> omega
theorem grade6 {s : T6} {A : Sh} (h : S6 s A) (hok : okS A) (n d : Int64) : m_X6_gradeOf s n d = some (nI (grd A n d (hB A))) := by
  obtain ⟨-, -, -, ⟨h1, h2⟩, -⟩ := h
  have n5 := hok.2.2.1.1
  have key : lp (fun z : Int32 × Int32 => m_X6_gradeOf_l6 s n d z.1 z.2) fu ((0 : Int32), (0 : Int32)) = some (nI (grd A n d (hB A))) := by
    refine lp_for (fun k => (nI (grd A n d k), nI k)) (hB A) (fun k hk => ?_) ?_ (by omega) rfl
    · simp only [m_X6_gradeOf_l6]
      rw [h1, if_neg (nI_ge hk (by omega)), get_in (by omega) (by decide), Option.bind_some, h2 k hk, nI_1]
      rw [grd]
      by_cases c : n < (nI (hM A k)).toInt64 * d
      · rw [if_pos c, if_pos c]; rfl
      · rw [if_neg c, if_neg c, nI_1]
    · simp only [m_X6_gradeOf_l6]
      rw [h1, if_pos (nI_le (Nat.le_refl _) (by omega))]
  unfold m_X6_gradeOf
  rw [key, Option.bind_some]
theorem grade10 {s : T10} {A : Sh} (h : S10 s A) (hok : okS A) (n d : Int64) : m_X10_gradeOf s n d = some (nI (grd A n d (hB A))) := by
  obtain ⟨-, -, -, ⟨h1, h2⟩, -⟩ := h
  have n5 := hok.2.2.1.1
  have key : lp (fun z : Int32 × Int32 => m_X10_gradeOf_l6 s n d z.1 z.2) fu ((0 : Int32), (0 : Int32)) = some (nI (grd A n d (hB A))) := by
    refine lp_for (fun k => (nI (grd A n d k), nI k)) (hB A) (fun k hk => ?_) ?_ (by omega) rfl
    · simp only [m_X10_gradeOf_l6]
      rw [h1, if_neg (nI_ge hk (by omega)), if_pos (inb_nI (by omega) (by decide)), nI_clamp (by omega), h2 k hk, nI_1]
      rw [grd]
      by_cases c : n < (nI (hM A k)).toInt64 * d
      · rw [if_pos c, if_pos c, Int32.add_zero]; rfl
      · rw [if_neg c, if_neg c, nI_1]
    · simp only [m_X10_gradeOf_l6]
      rw [h1, if_pos (nI_le (Nat.le_refl _) (by omega))]
  unfold m_X10_gradeOf
  rw [key, Option.bind_some]
/-- the rule r is broken by the marks -/
def brk (A : Sh) (r : Nat) : Bool := decide (mkA A (hO A r) < mkA A (hL A r))
theorem broken6 {s : T6} {A : Sh} (h : S6 s A) (hok : okS A) {r : Nat} (hr : r < hU A) : m_X6_isBroken s (nI r) = some (if brk A r then 1 else 0) := by
  have n12 := hok.2.1.1
  obtain ⟨k1, k2, k3⟩ := hok.2.1.2 r hr
  have q1 := mkA_le hok k1
  have q2 := mkA_le hok k2
  unfold m_X6_isBroken
  rw [get_in (by omega) (by decide), Option.bind_some, h.2.2.1.2.1 r hr, markOf6 h hok k1, Option.bind_some, get_in (by omega) (by decide), Option.bind_some, h.2.2.1.2.2 r hr, markOf6 h hok k2, Option.bind_some]
  unfold brk
  by_cases c : mkA A (hO A r) < mkA A (hL A r)
  · rw [if_neg (by rw [i_le, nI_toInt (by omega), nI_toInt (by omega)]; omega), if_pos (decide_eq_true c)]
  · rw [if_pos (by rw [i_le, nI_toInt (by omega), nI_toInt (by omega)]; omega), if_neg (by simp [c])]
theorem broken10 {s : T10} {A : Sh} (h : S10 s A) (hok : okS A) {r : Nat} (hr : r < hU A) : m_X10_isHindered s (nI r) = some (if brk A r then 1 else 0) := by
  have n12 := hok.2.1.1
  obtain ⟨k1, k2, k3⟩ := hok.2.1.2 r hr
  have q1 := mkA_le hok k1
  have q2 := mkA_le hok k2
  have ib : inb (nI r) 12 = true := inb_nI (by omega) (by decide)
  unfold m_X10_isHindered
  simp only [ib, if_true]
  rw [nI_clamp (by omega), h.2.2.1.2.1 r hr, mark10 h hok k1, Option.bind_some, h.2.2.1.2.2 r hr, mark10 h hok k2, Option.bind_some]
  unfold brk
  by_cases c : mkA A (hO A r) < mkA A (hL A r)
  · rw [if_neg (by rw [i_le, nI_toInt (by omega), nI_toInt (by omega)]; omega), if_pos (decide_eq_true c)]
  · rw [if_pos (by rw [i_le, nI_toInt (by omega), nI_toInt (by omega)]; omega), if_neg (by simp [c])]
theorem brokens6 {s : T6} {A : Sh} (h : S6 s A) (hok : okS A) : m_X6_brokenRules s = some (nI (bs (brk A) (hU A))) := by
  have n12 := hok.2.1.1
  have key : lp (fun z : Int32 × Int32 => m_X6_brokenRules_l4 s z.1 z.2) fu ((0 : Int32), (0 : Int32)) = some (nI (bs (brk A) (hU A))) := by
    refine lp_for (fun k => (nI (bs (brk A) k), nI k)) (hU A) (fun k hk => ?_) ?_ (by omega) rfl
    · simp only [m_X6_brokenRules_l4]
      rw [h.2.2.1.1, if_neg (nI_ge hk (by omega)), broken6 h hok hk, Option.bind_some, bs_or, nI_1]
      cases brk A k
      · rw [if_pos (by rfl), if_neg (by decide), Nat.or_zero]
      · rw [if_neg (by decide), if_pos rfl, nI_shl1 k (by omega), nI_or]
    · simp only [m_X6_brokenRules_l4]
      rw [h.2.2.1.1, if_pos (nI_le (Nat.le_refl _) (by omega))]
  unfold m_X6_brokenRules
  rw [key, Option.bind_some]
theorem brokens10 {s : T10} {A : Sh} (h : S10 s A) (hok : okS A) : m_X10_hindered s = some (nI (bs (brk A) (hU A))) := by
  have n12 := hok.2.1.1
  have key : lp (fun z : Int32 × Int32 => m_X10_hindered_l4 s z.1 z.2) fu ((0 : Int32), (0 : Int32)) = some (nI (bs (brk A) (hU A))) := by
    refine lp_for (fun k => (nI (bs (brk A) k), nI k)) (hU A) (fun k hk => ?_) ?_ (by omega) rfl
    · simp only [m_X10_hindered_l4]
      rw [h.2.2.1.1, if_neg (nI_ge hk (by omega)), broken10 h hok hk, Option.bind_some, bs_or, nI_1]
      cases brk A k
      · rw [if_pos (by rfl), if_neg (by decide), Nat.or_zero, Int32.or_zero]
      · rw [if_neg (by decide), if_pos rfl, nI_shl1 k (by omega), nI_or]
    · simp only [m_X10_hindered_l4]
      rw [h.2.2.1.1, if_pos (nI_le (Nat.le_refl _) (by omega))]
  unfold m_X10_hindered
  rw [key, Option.bind_some]
theorem op_of : OP_of Rel := by
  intro s9 s10 p1 p2 ⟨A, hok, h6, h10, rI, rL, rT, rH, rR, rS, rB⟩
  have n7 := hok.1.1
  rcases paper_cases h6 h10 hok p1 with ⟨p, hp, rfl, e6, e10⟩ | ⟨e6, e10⟩
  · have fin : ∀ x : Int32, m_X9_of s9 (nI p) p2 = some (x, p9_refusals s9) → m_X10_of s10 (nI p) p2 = some (x, p10_refusals s10) → ∃ u v, m_X9_of s9 (nI p) p2 = some u ∧ m_X10_of s10 (nI p) p2 = some v ∧ u.1 = v.1 ∧ Rel (st_X9_of s9 u) (st_X10_of s10 v) := fun x a b => ⟨_, _, a, b, rfl, A, hok, h6, h10, rI, rL, rT, rH, rR, rS, rB⟩
    have q6 := h6
    have q10 := h10
    obtain ⟨h1, ⟨h2, h3, h4, h5, h6'⟩, -⟩ := q6
    obtain ⟨k1, ⟨k2, k3, k4, k5, k6⟩, -⟩ := q10
    have ib : inb (nI p) 7 = true := inb_nI (by omega) (by decide)
    have gt : ∀ f : Nat → Int32, m_X2_get 7 f (nI p) = some (f p) := fun f => get_in (by omega) (by decide)
    have cl : (nI p).toNatClampNeg = p := nI_clamp (by omega)
    have st9 : m_X9_of s9 (nI p) p2 = (if p2 = 0 then some (nI (hR A p), p9_refusals s9) else if p2 = 1 then some (nI (hK A p), p9_refusals s9) else if p2 = 2 then some (nI (hF A p), p9_refusals s9) else if p2 = 3 then some (nI (hH A p), p9_refusals s9) else if p2 = 4 then some (nI (hP A p), p9_refusals s9) else if p2 = 5 then some (nI (mkA A p), p9_refusals s9) else if p2 = 6 then some (nI (wtA A p), p9_refusals s9) else if p2 = 7 then some (nI (grd A (nI (mkA A p)).toInt64 1 (hB A)), p9_refusals s9) else some (-2, cnt (p9_refusals s9) 2)) := by
      unfold m_X9_of m_X6_rawOf m_X6_kindOf m_X6_figureOf m_X6_heavyOf m_X6_placeOf
      rw [e6]
      simp only [gt, Option.bind_some, h2 p hp, h3 p hp, h4 p hp, h5 p hp, h6' p hp, markOf6 h6 hok hp, weightOf6 h6 hok hp, grade6 h6 hok, use9 (k := 2) (c := -2) s9 (by decide) (by decide)]
      rw [if_neg (by decide)]
    have st10 : m_X10_of s10 (nI p) p2 = (if p2 = 0 then some (nI (hR A p), p10_refusals s10) else if p2 = 1 then some (nI (hK A p), p10_refusals s10) else if p2 = 2 then some (nI (hF A p), p10_refusals s10) else if p2 = 3 then some (nI (hH A p), p10_refusals s10) else if p2 = 4 then some (nI (hP A p), p10_refusals s10) else if p2 = 5 then some (nI (mkA A p), p10_refusals s10) else if p2 = 6 then some (nI (wtA A p), p10_refusals s10) else if p2 = 7 then some (nI (grd A (nI (mkA A p)).toInt64 1 (hB A)), p10_refusals s10) else some (-2, cnt (p10_refusals s10) 2)) := by
      unfold m_X10_of
      rw [e10]
      simp only [ib, if_true, cl, Option.bind_some, k2 p hp, k3 p hp, k4 p hp, k5 p hp, k6 p hp, mark10 h10 hok hp, weight10 h10 hok hp, grade10 h10 hok, no10 (k := 2) (c := -2) s10 (by decide) (by decide)]
      rw [if_neg (by decide)]
    rw [st9, st10] at fin
    rw [st9, st10]
    by_cases c0 : p2 = 0
    · simp only [if_pos c0] at fin ⊢; exact fin _ rfl rfl
    simp only [if_neg c0] at fin ⊢
    by_cases c1 : p2 = 1
    · simp only [if_pos c1] at fin ⊢; exact fin _ rfl rfl
    simp only [if_neg c1] at fin ⊢
    by_cases c2 : p2 = 2
    · simp only [if_pos c2] at fin ⊢; exact fin _ rfl rfl
    simp only [if_neg c2] at fin ⊢
    by_cases c3 : p2 = 3
    · simp only [if_pos c3] at fin ⊢; exact fin _ rfl rfl
    simp only [if_neg c3] at fin ⊢
    by_cases c4 : p2 = 4
    · simp only [if_pos c4] at fin ⊢; exact fin _ rfl rfl
    simp only [if_neg c4] at fin ⊢
    by_cases c5 : p2 = 5
    · simp only [if_pos c5] at fin ⊢; exact fin _ rfl rfl
    simp only [if_neg c5] at fin ⊢
    by_cases c6 : p2 = 6
    · simp only [if_pos c6] at fin ⊢; exact fin _ rfl rfl
    simp only [if_neg c6] at fin ⊢
    by_cases c7 : p2 = 7
    · simp only [if_pos c7] at fin ⊢; exact fin _ rfl rfl
    simp only [if_neg c7]
    exact ⟨_, _, rfl, rfl, rfl, A, hok, h6, h10, rI, rL, rT, rH, Req_cnt rR (by decide), rS, rB⟩
  · refine ⟨(-1, cnt (p9_refusals s9) 1), (-1, cnt (p10_refusals s10) 1), ?_, ?_, rfl, A, hok, h6, h10, rI, rL, rT, rH, Req_cnt rR (by decide), rS, rB⟩
    · unfold m_X9_of
      rw [e6, Option.bind_some, if_pos rfl, use9 (k := 1) _ (by decide) (by decide), Option.bind_some]
    · unfold m_X10_of
      rw [e10, Option.bind_some, if_pos rfl, no10 (k := 1) _ (by decide) (by decide), Option.bind_some]
theorem op_ruleOf : OP_ruleOf Rel := by
  intro s9 s10 p1 p2 ⟨A, hok, h6, h10, rI, rL, rT, rH, rR, rS, rB⟩
  have n12 := hok.2.1.1
  rcases rule_cases h6 h10 hok p1 with ⟨p, hp, rfl, e6, e10⟩ | ⟨e6, e10⟩
  · have fin : ∀ x : Int32, m_X9_ruleOf s9 (nI p) p2 = some (x, p9_refusals s9) → m_X10_ruleOf s10 (nI p) p2 = some (x, p10_refusals s10) → ∃ u v, m_X9_ruleOf s9 (nI p) p2 = some u ∧ m_X10_ruleOf s10 (nI p) p2 = some v ∧ u.1 = v.1 ∧ Rel (st_X9_ruleOf s9 u) (st_X10_ruleOf s10 v) := fun x a b => ⟨_, _, a, b, rfl, A, hok, h6, h10, rI, rL, rT, rH, rR, rS, rB⟩
    have q6 := h6
    have q10 := h10
    obtain ⟨-, -, ⟨h1, h2, h3⟩, -⟩ := q6
    obtain ⟨-, -, ⟨k1, k2, k3⟩, -⟩ := q10
    have ib : inb (nI p) 12 = true := inb_nI (by omega) (by decide)
    have gt : ∀ f : Nat → Int32, m_X2_get 12 f (nI p) = some (f p) := fun f => get_in (by omega) (by decide)
    have cl : (nI p).toNatClampNeg = p := nI_clamp (by omega)
    have b01 : ∀ (b : Bool) (f : Nat → Int32), (if (if b = true then (1 : Int32) else 0) = 0 then some ((0 : Int32), f) else some (1, f)) = some (if b = true then (1 : Int32) else 0, f) := by
      intro b f
      cases b <;> rfl
    have st9 : m_X9_ruleOf s9 (nI p) p2 = (if p2 = 0 then some (nI (hL A p), p9_refusals s9) else if p2 = 1 then some (nI (hO A p), p9_refusals s9) else if p2 = 2 then some (if brk A p = true then 1 else 0, p9_refusals s9) else some (-2, cnt (p9_refusals s9) 2)) := by
      unfold m_X9_ruleOf m_X6_lowerOf m_X6_upperOf
      rw [e6]
      simp only [gt, Option.bind_some, h2 p hp, h3 p hp, broken6 h6 hok hp, b01, use9 (k := 2) (c := -2) s9 (by decide) (by decide)]
      rw [if_neg (by decide)]
    have st10 : m_X10_ruleOf s10 (nI p) p2 = (if p2 = 0 then some (nI (hL A p), p10_refusals s10) else if p2 = 1 then some (nI (hO A p), p10_refusals s10) else if p2 = 2 then some (if brk A p = true then 1 else 0, p10_refusals s10) else some (-2, cnt (p10_refusals s10) 2)) := by
      unfold m_X10_ruleOf
      rw [e10]
      simp only [ib, if_true, cl, Option.bind_some, k2 p hp, k3 p hp, broken10 h10 hok hp, b01, no10 (k := 2) (c := -2) s10 (by decide) (by decide)]
      rw [if_neg (by decide)]
    rw [st9, st10] at fin
    rw [st9, st10]
    by_cases c0 : p2 = 0
    · simp only [if_pos c0] at fin ⊢; exact fin _ rfl rfl
    simp only [if_neg c0] at fin ⊢
    by_cases c1 : p2 = 1
    · simp only [if_pos c1] at fin ⊢; exact fin _ rfl rfl
    simp only [if_neg c1] at fin ⊢
    by_cases c2 : p2 = 2
    · simp only [if_pos c2] at fin ⊢; exact fin _ rfl rfl
    simp only [if_neg c2]
    exact ⟨_, _, rfl, rfl, rfl, A, hok, h6, h10, rI, rL, rT, rH, Req_cnt rR (by decide), rS, rB⟩
  · refine ⟨(-1, cnt (p9_refusals s9) 1), (-1, cnt (p10_refusals s10) 1), ?_, ?_, rfl, A, hok, h6, h10, rI, rL, rT, rH, Req_cnt rR (by decide), rS, rB⟩
    · unfold m_X9_ruleOf
      rw [e6, Option.bind_some, if_pos rfl, use9 (k := 1) _ (by decide) (by decide), Option.bind_some]
    · unfold m_X10_ruleOf
      rw [e10, Option.bind_some, if_pos rfl, no10 (k := 1) _ (by decide) (by decide), Option.bind_some]
theorem op_count : OP_count Rel := by
  intro s9 s10 p1 h
  obtain ⟨A, hok, h6, h10, rI, rL, rT, rH, rR, rS, rB⟩ := id h
  obtain ⟨n, c, hn, t1, t2, hc, t3, t4⟩ := id rT
  obtain ⟨m, e, hm, l1, l2, he, l3, l4⟩ := id rL
  have q6 := h6
  have q10 := h10
  obtain ⟨a1, -, ⟨a2, -⟩, ⟨a3, -⟩, a4⟩ := q6
  obtain ⟨b1, -, ⟨b2, -⟩, ⟨b3, -⟩, b4⟩ := q10
  have fin : ∀ x : Int32, m_X9_count s9 p1 = some x → m_X10_count s10 p1 = some x → ∃ u v, m_X9_count s9 p1 = some u ∧ m_X10_count s10 p1 = some v ∧ u = v ∧ Rel s9 s10 := fun x a b => ⟨x, x, a, b, rfl, h⟩
  have st9 : m_X9_count s9 p1 = (if p1 = 0 then some (nI (hN A)) else if p1 = 1 then some (nI (hU A)) else if p1 = 2 then some (nI (hB A)) else if p1 = 3 then some (nI (hT A)) else if p1 = 4 then some (nI m) else if p1 = 5 then some (nI n) else if p1 = 6 then some (nI (bs (brk A) (hU A))) else (if p1 < 11 then some (-9) else (if 16 < p1 then some (-9) else (m_X2_get 7 (p9_refusals s9) (p1 - 10)).bind fun x7 => some x7))) := by
    unfold m_X9_count m_X6_paperCount m_X6_ruleCount m_X6_limitCount m_X6_tiesNow m_X3_size
    simp only [Option.bind_some, brokens6 h6 hok, a1, a2, a3, a4, l1, t1]
  have st10 : m_X10_count s10 p1 = (if p1 = 0 then some (nI (hN A)) else if p1 = 1 then some (nI (hU A)) else if p1 = 2 then some (nI (hB A)) else if p1 = 3 then some (nI (hT A)) else if p1 = 4 then some (nI m) else if p1 = 5 then some (nI n) else if p1 = 6 then some (nI (bs (brk A) (hU A))) else ((m_X10_in p1 11 16).bind fun x2 => if x2 = 0 then some (-9) else (if inb (p1 - 10) 7 = true then (some ((p10_refusals s10) (p1 - 10).toNatClampNeg)) else none))) := by
    unfold m_X10_count
    simp only [Option.bind_some, brokens10 h10 hok, b1, b2, b3, b4, l2, t2]
  rw [st9, st10] at fin
  rw [st9, st10]
  by_cases c0 : p1 = 0
  · simp only [if_pos c0] at fin ⊢; exact fin _ rfl rfl
  simp only [if_neg c0] at fin ⊢
  by_cases c1 : p1 = 1
  · simp only [if_pos c1] at fin ⊢; exact fin _ rfl rfl
  simp only [if_neg c1] at fin ⊢
  by_cases c2 : p1 = 2
  · simp only [if_pos c2] at fin ⊢; exact fin _ rfl rfl
  simp only [if_neg c2] at fin ⊢
  by_cases c3 : p1 = 3
  · simp only [if_pos c3] at fin ⊢; exact fin _ rfl rfl
  simp only [if_neg c3] at fin ⊢
  by_cases c4 : p1 = 4
  · simp only [if_pos c4] at fin ⊢; exact fin _ rfl rfl
  simp only [if_neg c4] at fin ⊢
  by_cases c5 : p1 = 5
  · simp only [if_pos c5] at fin ⊢; exact fin _ rfl rfl
  simp only [if_neg c5] at fin ⊢
  by_cases c6 : p1 = 6
  · simp only [if_pos c6] at fin ⊢; exact fin _ rfl rfl
  simp only [if_neg c6] at fin ⊢
  by_cases c7 : 11 ≤ p1.toInt ∧ p1.toInt ≤ 16
  · obtain ⟨v, hv, rfl⟩ := num_of (x := p1) (m := 16) (by omega) (by omega)
    rw [nI_toInt (by omega)] at c7
    have e1 : nI v - 10 = nI (v - 10) := nI_sub (b := 10) (by omega)
    refine ⟨p9_refusals s9 (v - 10), p10_refusals s10 (v - 10), ?_, ?_, rR _ (by omega), h⟩
    · rw [if_neg (by rw [i_lt, nI_toInt (by omega), show (11 : Int32).toInt = 11 from rfl]; omega), if_neg (by rw [i_lt, nI_toInt (by omega), show (16 : Int32).toInt = 16 from rfl]; omega), e1, get_in (by omega) (by decide), Option.bind_some]
    · rw [in10, show (11 : Int32).toInt = 11 from rfl, show (16 : Int32).toInt = 16 from rfl, nI_toInt (by omega), if_pos (by omega), Option.bind_some, if_neg (by decide), e1, if_pos (inb_nI (by omega) (by decide)), nI_clamp (by omega)]
  · refine ⟨-9, -9, ?_, ?_, rfl, h⟩
    · by_cases c8 : p1 < 11
      · rw [if_pos c8]
      · rw [if_neg c8, if_pos]
        rw [i_lt, show (11 : Int32).toInt = 11 from rfl] at c8
        rw [i_lt, show (16 : Int32).toInt = 16 from rfl]
        omega
    · rw [in10, show (11 : Int32).toInt = 11 from rfl, show (16 : Int32).toInt = 16 from rfl, if_neg c7, Option.bind_some, if_pos rfl]
