/-! kind, limit, limits, ties, row, clear, letter -/
theorem i5 : (5 : Int32).toInt = 5 := rfl
theorem i9 : (9 : Int32).toInt = 9 := rfl
theorem i2 : (2 : Int32).toInt = 2 := rfl
theorem i1 : (1 : Int32).toInt = 1 := rfl
theorem i99 : (99 : Int32).toInt = 99 := rfl
theorem i255 : (255 : Int32).toInt = 255 := rfl
theorem i999 : (999 : Int32).toInt = 999 := rfl
theorem i10 : (10 : Int32).toInt = 10 := rfl
theorem i120 : (120 : Int32).toInt = 120 := rfl
theorem kind6 {s : T6} {A : Sh} (h : S6 s A) (hok : okS A) {p k f : Nat} (hp : p < hN A) (hk : k ≤ 5) (hf : f ≤ 9) : m_X6_setKind s (nI p) (nI k) (nI f) = some (nI (10 * hK A p + hF A p), upd (p6_kinds s) p (nI k), upd (p6_figures s) p (nI f)) ∧ S6 (u6_figures (upd (p6_figures s) p (nI f)) (u6_kinds (upd (p6_kinds s) p (nI k)) s)) (aKind A p k f) := by
  obtain ⟨k1, ⟨h2, h3, h4, h5, h6⟩, h7, h8, h9⟩ := h
  have n7 := hok.1.1
  refine ⟨?_, k1, ⟨h2, Eqn_upd h3 rfl, Eqn_upd h4 rfl, h5, h6⟩, h7, h8, h9⟩
  unfold m_X6_setKind m_X6_hasPaper
  rw [if_neg (nI_pos (by omega)), k1, if_neg (nI_ge hp (by omega))]
  simp only [Option.bind_some]
  rw [if_neg (by decide), if_neg (nI_pos (by omega)), if_pos (by rw [i_le, nI_toInt (by omega), i5]; omega), if_pos (nI_pos' (by omega)), if_pos (by rw [i_le, nI_toInt (by omega), i9]; omega), get_in (by omega) (by decide), Option.bind_some, get_in (by omega) (by decide), Option.bind_some, set_in (by omega) (by decide), Option.bind_some, set_in (by omega) (by decide), Option.bind_some, h3 p hp, h4 p hp, show (10 : Int32) = nI 10 from rfl, nI_mul, nI_add]
theorem op_kind : OP_kind Rel := by
  intro s9 s10 p1 p2 p3 ⟨A, hok, h6, h10, rI, rL, rT, rH, rR, rS, rB⟩
  have n7 := hok.1.1
  have k5 : ∀ z, m_X10_in z 0 5 = some (if 0 ≤ z.toInt ∧ z.toInt ≤ 5 then 1 else 0) := fun z => by rw [in10, z32, i5]
  rcases paper_cases h6 h10 hok p1 with ⟨p, hp, rfl, e6, e10⟩ | ⟨e6, e10⟩
  · by_cases c1 : 0 ≤ p2.toInt ∧ p2.toInt ≤ 5
    · have c1a : ¬ p2 < 0 := by rw [i_lt, z32]; omega
      have c1b : p2 ≤ 5 := by rw [i_le, i5]; omega
      by_cases c2 : (0 : Int32) ≤ p3
      · by_cases c3 : p3 ≤ (9 : Int32)
        · have c2' := c2
          have c3' := c3
          rw [i_le, z32] at c2'
          rw [i_le, i9] at c3'
          obtain ⟨k, hk, rfl⟩ := num_of (m := 5) c1.1 (by omega)
          obtain ⟨f, hf, rfl⟩ := num_of (m := 9) c2' (by omega)
          obtain ⟨e1, e2⟩ := kind6 h6 hok hp hk hf
          have hb := hok.1.2 p hp
          refine ⟨(nI (10 * hK A p + hF A p), upd (p6_kinds (p9_now s9)) p (nI k), upd (p6_figures (p9_now s9)) p (nI f), p9_refusals s9), (nI (10 * hK A p + hF A p), upd (p10_kind s10) p (nI k), upd (p10_figure s10) p (nI f), p10_refusals s10), ?_, ?_, rfl, Rel_mk rI rL rT rH rS rB (by dsimp only [keep9, st_X9_kind, u9_refusals, u9_now, p9_kept, p9_isKept, p9_letters, p9_told, p9_toldCount, p9_shelves, p9_said, p9_byRules]) (by dsimp only [keep10, st_X10_kind, u10_refusals, u10_kind, u10_figure, p10_hasImage, p10_imaged, p10_letters, p10_letter, p10_tolds, p10_told, p10_places, p10_cell]) (okKind hok hk hf) e2 ?_ (by dsimp only [st_X9_kind, st_X10_kind, u9_refusals, p9_refusals, u10_refusals, p10_refusals]; exact rR)⟩
          · unfold m_X9_kind
            rw [e1, Option.bind_some, counted_pos _ (by omega), Option.bind_some]
          · obtain ⟨q1, ⟨h2, h3, h4, h5, h6⟩, h7, h8, h9⟩ := h10
            have ib : inb (nI p) 7 = true := inb_nI (by omega) (by decide)
            unfold m_X10_kind
            rw [e10]
            simp only [Option.bind_some, k5, if_pos c1]
            rw [if_neg (by decide), if_neg (by decide), if_pos c2, if_pos c3]
            simp only [ib, if_true, Option.bind_some]
            rw [nI_clamp (by omega), h3 p hp, h4 p hp, show (10 : Int32) = nI 10 from rfl, nI_mul, nI_add]
          · obtain ⟨q1, ⟨h2, h3, h4, h5, h6⟩, h7, h8, h9⟩ := h10
            exact ⟨q1, ⟨h2, Eqn_upd h3 rfl, Eqn_upd h4 rfl, h5, h6⟩, h7, h8, h9⟩
        · refine ⟨(-6, p6_kinds (p9_now s9), p6_figures (p9_now s9), cnt (p9_refusals s9) 6), (-6, p10_kind s10, p10_figure s10, cnt (p10_refusals s10) 6), ?_, ?_, rfl, A, hok, h6, h10, rI, rL, rT, rH, Req_cnt rR (by decide), rS, rB⟩
          · unfold m_X9_kind m_X6_setKind
            rw [e6]
            simp only [Option.bind_some]
            rw [if_neg (by decide), if_neg c1a, if_pos c1b, if_pos c2, if_neg c3]
            simp only [Option.bind_some]
            rw [counted_neg (k := 6) (c := -6) _ (by decide) (by decide) (by decide) (by decide), Option.bind_some]
          · unfold m_X10_kind
            rw [e10]
            simp only [Option.bind_some, k5, if_pos c1]
            rw [if_neg (by decide), if_neg (by decide), if_pos c2, if_neg c3, no10 (k := 6) _ (by decide) (by decide), Option.bind_some]
      · refine ⟨(-4, p6_kinds (p9_now s9), p6_figures (p9_now s9), cnt (p9_refusals s9) 4), (-4, p10_kind s10, p10_figure s10, cnt (p10_refusals s10) 4), ?_, ?_, rfl, A, hok, h6, h10, rI, rL, rT, rH, Req_cnt rR (by decide), rS, rB⟩
        · unfold m_X9_kind m_X6_setKind
          rw [e6]
          simp only [Option.bind_some]
          rw [if_neg (by decide), if_neg c1a, if_pos c1b, if_neg c2]
          simp only [Option.bind_some]
          rw [counted_neg (k := 4) (c := -4) _ (by decide) (by decide) (by decide) (by decide), Option.bind_some]
        · unfold m_X10_kind
          rw [e10]
          simp only [Option.bind_some, k5, if_pos c1]
          rw [if_neg (by decide), if_neg (by decide), if_neg c2, no10 (k := 4) _ (by decide) (by decide), Option.bind_some]
    · refine ⟨(-2, p6_kinds (p9_now s9), p6_figures (p9_now s9), cnt (p9_refusals s9) 2), (-2, p10_kind s10, p10_figure s10, cnt (p10_refusals s10) 2), ?_, ?_, rfl, A, hok, h6, h10, rI, rL, rT, rH, Req_cnt rR (by decide), rS, rB⟩
      · have e : m_X6_setKind (p9_now s9) (nI p) p2 p3 = some (-2, p6_kinds (p9_now s9), p6_figures (p9_now s9)) := by
          unfold m_X6_setKind
          rw [e6]
          simp only [Option.bind_some]
          rw [if_neg (by decide)]
          by_cases c3 : p2 < 0
          · rw [if_pos c3]
          · rw [if_neg c3, if_neg]
            rw [i_lt, z32] at c3
            rw [i_le, i5]; omega
        unfold m_X9_kind
        rw [e, Option.bind_some, counted_neg (k := 2) (c := -2) _ (by decide) (by decide) (by decide) (by decide), Option.bind_some]
      · unfold m_X10_kind
        rw [e10]
        simp only [Option.bind_some, k5, if_neg c1]
        rw [if_neg (by decide), if_pos trivial, no10 (k := 2) _ (by decide) (by decide), Option.bind_some]
  · refine ⟨(-1, p6_kinds (p9_now s9), p6_figures (p9_now s9), cnt (p9_refusals s9) 1), (-1, p10_kind s10, p10_figure s10, cnt (p10_refusals s10) 1), ?_, ?_, rfl, A, hok, h6, h10, rI, rL, rT, rH, Req_cnt rR (by decide), rS, rB⟩
    · unfold m_X9_kind m_X6_setKind
      rw [e6]
      simp only [Option.bind_some]
      rw [if_pos trivial]
      simp only [Option.bind_some]
      rw [counted_neg (k := 1) (c := -1) _ (by decide) (by decide) (by decide) (by decide), Option.bind_some]
    · unfold m_X10_kind
      rw [e10]
      simp only [Option.bind_some]
      rw [if_pos trivial, no10 (k := 1) _ (by decide) (by decide), Option.bind_some]
def aLimit (A : Sh) (v : Nat) : Sh := (hN A, hR A, hK A, hF A, hH A, hP A, hU A, hL A, hO A, hB A + 1, fun j => if j = hB A then v else hM A j, hT A)
theorem okLimit {A : Sh} (hok : okS A) {v : Nat} (hn : hB A < 5) (h1 : 1 ≤ v) (h2 : v ≤ 99) : okS (aLimit A v) := by
  obtain ⟨h, hu, ⟨hb1, hb2⟩, ht⟩ := hok
  refine ⟨h, hu, ⟨by show hB A + 1 ≤ 5; omega, fun k hk => ?_⟩, ht⟩
  have hk : k < hB A + 1 := hk
  show 1 ≤ (if k = hB A then v else hM A k) ∧ (if k = hB A then v else hM A k) ≤ 99
  by_cases e : k = hB A
  · simp only [if_pos e]; omega
  · simp only [if_neg e]; exact hb2 k (by omega)
theorem op_limit : OP_limit Rel := by
  intro s9 s10 p1 ⟨A, hok, h6, h10, rI, rL, rT, rH, rR, rS, rB⟩
  obtain ⟨n5, hbd⟩ := hok.2.2.1
  have e6 : p6_boundCount (p9_now s9) = nI (hB A) := h6.2.2.2.1.1
  have e10 : p10_limits s10 = nI (hB A) := h10.2.2.2.1.1
  have hb6 := h6.2.2.2.1.2
  have hb10 := h10.2.2.2.1.2
  have refuse : ∀ (c : Int32) (k : Nat), ¬ -1 < c → ¬ c < -6 → k < 7 → -c = nI k → m_X6_addLimit (p9_now s9) p1 = some (c, p6_bounds (p9_now s9), p6_boundCount (p9_now s9)) → m_X10_limit s10 p1 = some (c, p10_limits s10, p10_limit s10, cnt (p10_refusals s10) k) → ∃ u v, m_X9_limit s9 p1 = some u ∧ m_X10_limit s10 p1 = some v ∧ u.1 = v.1 ∧ Rel (st_X9_limit s9 u) (st_X10_limit s10 v) := by
    intro c k h1 h2 hk hc ha hb
    refine ⟨(c, p6_bounds (p9_now s9), p6_boundCount (p9_now s9), cnt (p9_refusals s9) k), _, ?_, hb, rfl, A, hok, h6, h10, rI, rL, rT, rH, Req_cnt rR hk, rS, rB⟩
    unfold m_X9_limit
    rw [ha, Option.bind_some, counted_neg _ h1 h2 hk hc, Option.bind_some]
  by_cases c1 : (1 : Int32) ≤ p1
  · by_cases c2 : 99 < p1
    · refine refuse (-6) 6 (by decide) (by decide) (by decide) (by decide) ?_ ?_
      · unfold m_X6_addLimit; rw [if_pos c1, if_pos c2]
      · unfold m_X10_limit
        rw [if_pos c1, if_pos c2]
        simp only [Option.bind_some]
        rw [no10 (k := 6) _ (by decide) (by decide), Option.bind_some]
    · by_cases c3 : hB A = 5
      · refine refuse (-6) 6 (by decide) (by decide) (by decide) (by decide) ?_ ?_
        · unfold m_X6_addLimit; rw [if_pos c1, if_neg c2, e6, if_neg (by rw [i_lt, nI_toInt (by omega), i5]; omega)]
        · unfold m_X10_limit
          rw [if_pos c1, if_neg c2, if_pos (by rw [e10, c3]; rfl)]
          simp only [Option.bind_some]
          rw [no10 (k := 6) _ (by decide) (by decide), Option.bind_some]
      · have c1' := c1
        have c2' := c2
        rw [i_le, i1] at c1'
        rw [i_lt, i99] at c2'
        have f7 : ¬ p10_limits s10 = 5 := by rw [e10, i_eq, nI_toInt (by omega), i5]; omega
        have f6 : p6_boundCount (p9_now s9) < 5 := by rw [e6, i_lt, nI_toInt (by omega), i5]; omega
        have ok : (hB A = 0 ∨ ((hM A (hB A - 1) : Nat) : Int) < p1.toInt) ∨ ¬ (hB A = 0 ∨ ((hM A (hB A - 1) : Nat) : Int) < p1.toInt) := Classical.em _
        rcases ok with c4 | c4
        · obtain ⟨v, hv, rfl⟩ := num_of (x := p1) (m := 99) (by omega) (by omega)
          rw [nI_toInt (by omega)] at c1' c4
          refine ⟨(nI (hB A + 1), upd (p6_bounds (p9_now s9)) (hB A) (nI v), nI (hB A + 1), p9_refusals s9), (nI (hB A + 1), nI (hB A + 1), upd (p10_limit s10) (hB A) (nI v), p10_refusals s10), ?_, ?_, rfl, Rel_mk rI rL rT rH rS rB (by dsimp only [keep9, st_X9_limit, u9_refusals, u9_now, p9_kept, p9_isKept, p9_letters, p9_told, p9_toldCount, p9_shelves, p9_said, p9_byRules]) (by dsimp only [keep10, st_X10_limit, u10_refusals, u10_limit, u10_limits, p10_hasImage, p10_imaged, p10_letters, p10_letter, p10_tolds, p10_told, p10_places, p10_cell]) (A := aLimit A v) (okLimit hok (by omega) (by omega) hv) ?_ ?_ (by dsimp only [st_X9_limit, st_X10_limit, u9_refusals, p9_refusals, u10_refusals, p10_refusals]; exact rR)⟩
          · have e : m_X6_addLimit (p9_now s9) (nI v) = some (nI (hB A + 1), upd (p6_bounds (p9_now s9)) (hB A) (nI v), nI (hB A + 1)) := by
              unfold m_X6_addLimit
              rw [if_pos c1, if_neg c2, if_pos f6]
              have e2 : (if p6_boundCount (p9_now s9) ≤ 0 then (some (.inl ()) : Option (Unit ⊕ (Int32 × (Nat → Int32) × Int32))) else ((m_X2_get 5 (p6_bounds (p9_now s9)) (p6_boundCount (p9_now s9) - (1 : Int32))).bind fun x5 => if x5 < nI v then (some (.inl ())) else (some (.inr ((-3 : Int32), (p6_bounds (p9_now s9)), (p6_boundCount (p9_now s9))))))) = some (.inl ()) := by
                by_cases c5 : hB A = 0
                · rw [if_pos]; rw [e6, c5]; decide
                · rw [if_neg (by rw [e6, i_le, nI_toInt (by omega), z32]; omega), e6, show nI (hB A) - 1 = nI (hB A - 1) from nI_sub (b := 1) (by omega), get_in (by omega) (by decide), Option.bind_some, hb6 _ (by omega), if_pos]
                  rw [i_lt, nI_toInt (by have := hbd (hB A - 1) (by omega); omega), nI_toInt (by omega)]
                  omega
              rw [e2]
              simp only [Option.bind_some]
              rw [e6, set_in (by omega) (by decide), Option.bind_some, nI_1]
            unfold m_X9_limit
            rw [e, Option.bind_some, counted_pos _ (by omega), Option.bind_some]
          · unfold m_X10_limit
            rw [if_pos c1, if_neg c2, if_neg f7]
            have ib : inb (p10_limits s10) 5 = true := by rw [e10]; exact inb_nI (by omega) (by decide)
            by_cases c5 : hB A = 0
            · rw [if_pos (by rw [e10, c5]; decide)]
              simp only [Option.bind_some]
              rw [if_pos ib, e10, nI_clamp (by omega), nI_1]
              simp only [Option.bind_some]
            · have ib2 : inb (p10_limits s10 - 1) 5 = true := by rw [e10, show nI (hB A) - 1 = nI (hB A - 1) from nI_sub (b := 1) (by omega)]; exact inb_nI (by omega) (by decide)
              rw [if_neg (by rw [e10, i_le, nI_toInt (by omega), z32]; omega), if_pos ib2, e10, show nI (hB A) - 1 = nI (hB A - 1) from nI_sub (b := 1) (by omega), nI_clamp (by omega), hb10 _ (by omega), if_pos (by rw [i_lt, nI_toInt (by have := hbd (hB A - 1) (by omega); omega), nI_toInt (by omega)]; omega)]
              simp only [Option.bind_some]
              rw [e10] at ib
              rw [if_pos ib, nI_clamp (by omega), nI_1]
              simp only [Option.bind_some]
          · obtain ⟨q1, q2, q3, ⟨q4, q5⟩, q6⟩ := h6
            exact ⟨q1, q2, q3, ⟨rfl, Eqn_push q5 rfl⟩, q6⟩
          · obtain ⟨q1, q2, q3, ⟨q4, q5⟩, q6⟩ := h10
            exact ⟨q1, q2, q3, ⟨rfl, Eqn_push q5 rfl⟩, q6⟩
        · have c5 : ¬ hB A = 0 := fun h => c4 (Or.inl h)
          have c6 : ¬ ((hM A (hB A - 1) : Nat) : Int) < p1.toInt := fun h => c4 (Or.inr h)
          have hm := hbd (hB A - 1) (by omega)
          refine refuse (-3) 3 (by decide) (by decide) (by decide) (by decide) ?_ ?_
          · unfold m_X6_addLimit
            rw [if_pos c1, if_neg c2, if_pos f6, if_neg (by rw [e6, i_le, nI_toInt (by omega), z32]; omega)]
            have e3 : m_X2_get 5 (p6_bounds (p9_now s9)) (p6_boundCount (p9_now s9) - 1) = some (nI (hM A (hB A - 1))) := by
              rw [e6, show nI (hB A) - 1 = nI (hB A - 1) from nI_sub (b := 1) (by omega), get_in (by omega) (by decide), hb6 _ (by omega)]
            rw [e3]
            simp only [Option.bind_some]
            rw [if_neg (by rw [i_lt, nI_toInt (by omega)]; exact c6)]
            simp only [Option.bind_some]
          · have ib2 : inb (p10_limits s10 - 1) 5 = true := by rw [e10, show nI (hB A) - 1 = nI (hB A - 1) from nI_sub (b := 1) (by omega)]; exact inb_nI (by omega) (by decide)
            have e3 : p10_limit s10 (p10_limits s10 - 1).toNatClampNeg = nI (hM A (hB A - 1)) := by
              rw [e10, show nI (hB A) - 1 = nI (hB A - 1) from nI_sub (b := 1) (by omega), nI_clamp (by omega), hb10 _ (by omega)]
            unfold m_X10_limit
            rw [if_pos c1, if_neg c2, if_neg f7, if_neg (by rw [e10, i_le, nI_toInt (by omega), z32]; omega), if_pos ib2, e3, if_neg (by rw [i_lt, nI_toInt (by omega)]; exact c6), no10 (k := 3) _ (by decide) (by decide)]
            simp only [Option.bind_some]
  · refine refuse (-4) 4 (by decide) (by decide) (by decide) (by decide) ?_ ?_
    · unfold m_X6_addLimit; rw [if_neg c1]
    · unfold m_X10_limit; rw [if_neg c1, no10 (k := 4) _ (by decide) (by decide), Option.bind_some]
theorem op_limits : OP_limits Rel := by
  intro s9 s10 ⟨A, hok, h6, h10, rI, rL, rT, rH, rR, rS, rB⟩
  obtain ⟨q1, q2, q3, ⟨q4, q5⟩, q6⟩ := h6
  obtain ⟨r1, r2, r3, ⟨r4, r5⟩, r6⟩ := h10
  exact ⟨(p6_boundCount (p9_now s9), 0), (p10_limits s10, 0), rfl, rfl, q4.trans r4.symm, (hN A, hR A, hK A, hF A, hH A, hP A, hU A, hL A, hO A, 0, hM A, hT A), ⟨hok.1, hok.2.1, ⟨Nat.zero_le _, fun k hk => absurd hk (Nat.not_lt_zero k)⟩, hok.2.2.2⟩, ⟨q1, q2, q3, ⟨rfl, fun i hi => absurd hi (Nat.not_lt_zero i)⟩, q6⟩, ⟨r1, r2, r3, ⟨rfl, fun i hi => absurd hi (Nat.not_lt_zero i)⟩, r6⟩, rI, rL, rT, rH, rR, rS, rB⟩
theorem op_ties : OP_ties Rel := by
  intro s9 s10 p1 ⟨A, hok, h6, h10, rI, rL, rT, rH, rR, rS, rB⟩
  obtain ⟨q1, q2, q3, q4, q6⟩ := h6
  obtain ⟨r1, r2, r3, r4, r6⟩ := h10
  have k2 : m_X10_in p1 0 2 = some (if 0 ≤ p1.toInt ∧ p1.toInt ≤ 2 then 1 else 0) := by rw [in10, z32, i2]
  by_cases c : 0 ≤ p1.toInt ∧ p1.toInt ≤ 2
  · obtain ⟨v, hv, rfl⟩ := num_of (m := 2) c.1 (by omega)
    refine ⟨(nI (hT A), nI v, p9_refusals s9), (nI (hT A), nI v, p10_refusals s10), ?_, ?_, rfl, Rel_mk rI rL rT rH rS rB (by dsimp only [keep9, st_X9_ties, u9_refusals, u9_now, p9_kept, p9_isKept, p9_letters, p9_told, p9_toldCount, p9_shelves, p9_said, p9_byRules]) (by dsimp only [keep10, st_X10_ties, u10_refusals, u10_ties, p10_hasImage, p10_imaged, p10_letters, p10_letter, p10_tolds, p10_told, p10_places, p10_cell]) (A := (hN A, hR A, hK A, hF A, hH A, hP A, hU A, hL A, hO A, hB A, hM A, v)) ⟨hok.1, hok.2.1, hok.2.2.1, hv⟩ ⟨q1, q2, q3, q4, rfl⟩ ⟨r1, r2, r3, r4, rfl⟩ (by dsimp only [st_X9_ties, st_X10_ties, u9_refusals, p9_refusals, u10_refusals, p10_refusals]; exact rR)⟩
    · have h2 := hok.2.2.2
      unfold m_X9_ties m_X6_setTies
      rw [if_neg (nI_pos (by omega)), if_pos (by rw [i_le, nI_toInt (by omega), i2]; omega), Option.bind_some, q6, counted_pos _ (by omega), Option.bind_some]
    · unfold m_X10_ties
      rw [k2, if_pos c, Option.bind_some, if_neg (by decide), r6]
  · refine ⟨(-2, p6_tieWay (p9_now s9), cnt (p9_refusals s9) 2), (-2, p10_ties s10, cnt (p10_refusals s10) 2), ?_, ?_, rfl, A, hok, ⟨q1, q2, q3, q4, q6⟩, ⟨r1, r2, r3, r4, r6⟩, rI, rL, rT, rH, Req_cnt rR (by decide), rS, rB⟩
    · have e : m_X6_setTies (p9_now s9) p1 = some (-2, p6_tieWay (p9_now s9)) := by
        unfold m_X6_setTies
        by_cases c3 : p1 < 0
        · rw [if_pos c3]
        · rw [if_neg c3, if_neg]
          rw [i_lt, z32] at c3
          rw [i_le, i2]; omega
      unfold m_X9_ties
      rw [e, Option.bind_some, counted_neg (k := 2) (c := -2) _ (by decide) (by decide) (by decide) (by decide), Option.bind_some]
    · unfold m_X10_ties
      rw [k2, if_neg c, Option.bind_some, if_pos rfl, no10 (k := 2) _ (by decide) (by decide), Option.bind_some]
