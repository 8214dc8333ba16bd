/-! lots: what is kept before, what comes again; draws -/
theorem keepsB {s : T10} {A : Sh} (h : S10 s A) (hok : okS A) : ∃ g, m_X10_keeps_0_0_15 s = some g ∧ SI10 g A := by
  have n7 := hok.1.1
  have n12 := hok.2.1.1
  have n5 := hok.2.2.1.1
  obtain ⟨g1, e1, q1⟩ := keeps1 s (p10_before s)
  obtain ⟨g2, e2, q2, r2⟩ := keeps2 s g1
  obtain ⟨g3, e3, q3, r3⟩ := keeps3 s g2
  have e1 : lp (fun z : Int32 × (Nat → Int32) => m_X10_keeps_0_0_15_l2 s z.1 z.2) fu ((0 : Int32), p10_before s) = some g1 := e1
  have e2 : lp (fun z : Int32 × (Nat → Int32) => m_X10_keeps_0_0_15_l73 s z.1 z.2) fu ((0 : Int32), g1) = some g2 := e2
  have e3 : lp (fun z : Int32 × (Nat → Int32) => m_X10_keeps_0_0_15_l111 s z.1 z.2) fu ((0 : Int32), g2) = some g3 := e3
  obtain ⟨b1, ⟨b2, b3, b4, b5, b6⟩, ⟨b7, b8, b9⟩, ⟨b10, b11⟩, b12⟩ := h
  refine ⟨upd (upd (upd (upd g3 64 (p10_papers s)) 65 (p10_rules s)) 66 (p10_limits s)) 67 (p10_ties s), ?_, ?_⟩
  · unfold m_X10_keeps_0_0_15
    rw [e1, Option.bind_some, e2, Option.bind_some, e3, Option.bind_some, if_pos (by decide), if_pos (by decide), if_pos (by decide), if_pos (by decide)]
    rfl
  · have lo : ∀ i, i < 64 → upd (upd (upd (upd g3 64 (p10_papers s)) 65 (p10_rules s)) 66 (p10_limits s)) 67 (p10_ties s) i = g3 i := fun i hi => by rw [upd_ne (by omega), upd_ne (by omega), upd_ne (by omega), upd_ne (by omega)]
    refine ⟨?_, ⟨fun i hi => ?_, fun i hi => ?_, fun i hi => ?_, fun i hi => ?_, fun i hi => ?_⟩, ⟨?_, fun i hi => ?_, fun i hi => ?_⟩, ⟨?_, fun i hi => ?_⟩, ?_⟩
    · rw [upd_ne (by omega), upd_ne (by omega), upd_ne (by omega), upd_at, b1]
    · rw [lo i (by omega), q3 i (by omega), q2 i (by omega), (q1 i (by omega)).1, b2 i hi]
    · show upd _ 67 _ (7 + i) = _
      rw [lo _ (by omega), q3 _ (by omega), q2 _ (by omega), (q1 i (by omega)).2.1, b3 i hi]
    · show upd _ 67 _ (14 + i) = _
      rw [lo _ (by omega), q3 _ (by omega), q2 _ (by omega), (q1 i (by omega)).2.2.1, b4 i hi]
    · show upd _ 67 _ (21 + i) = _
      rw [lo _ (by omega), q3 _ (by omega), q2 _ (by omega), (q1 i (by omega)).2.2.2.1, b5 i hi]
    · show upd _ 67 _ (28 + i) = _
      rw [lo _ (by omega), q3 _ (by omega), q2 _ (by omega), (q1 i (by omega)).2.2.2.2, b6 i hi]
    · rw [upd_ne (by omega), upd_ne (by omega), upd_at, b7]
    · show upd _ 67 _ (35 + i) = _
      rw [lo _ (by omega), q3 _ (by omega), (r2 i (by omega)).1, b8 i hi]
    · show upd _ 67 _ (47 + i) = _
      rw [lo _ (by omega), q3 _ (by omega), (r2 i (by omega)).2, b9 i hi]
    · rw [upd_ne (by omega), upd_at, b10]
    · show upd _ 67 _ (59 + i) = _
      rw [lo _ (by omega), r3 i (by omega), b11 i hi]
    · rw [upd_at, b12]
theorem againB {s : T10} {A : Sh} (h : SI10 (p10_before s) A) (hok : okS A) : ∃ u : Int32 × (Nat → Int32) × (Nat → Int32) × (Nat → Int32) × (Nat → Int32) × (Nat → Int32) × Int32 × (Nat → Int32) × (Nat → Int32) × Int32 × (Nat → Int32) × Int32, m_X10_again_0_0_15 s = some u ∧ u.1 = nI (hN A) ∧ Eqn u.2.1 (hR A) (hN A) ∧ Eqn u.2.2.1 (hK A) (hN A) ∧ Eqn u.2.2.2.1 (hF A) (hN A) ∧ Eqn u.2.2.2.2.1 (hH A) (hN A) ∧ Eqn u.2.2.2.2.2.1 (hP A) (hN A) ∧ u.2.2.2.2.2.2.1 = nI (hU A) ∧ Eqn u.2.2.2.2.2.2.2.1 (hL A) (hU A) ∧ Eqn u.2.2.2.2.2.2.2.2.1 (hO A) (hU A) ∧ u.2.2.2.2.2.2.2.2.2.1 = nI (hB A) ∧ Eqn u.2.2.2.2.2.2.2.2.2.2.1 (hM A) (hB A) ∧ u.2.2.2.2.2.2.2.2.2.2.2 = nI (hT A) := by
  have n7 := hok.1.1
  have n12 := hok.2.1.1
  have n5 := hok.2.2.1.1
  obtain ⟨g1, d1, r1⟩ := again1 (u10_imaged (p10_before s) s) (p10_raw s) (p10_kind s) (p10_figure s) (p10_heavy s) (p10_place s)
  obtain ⟨g2, d2, r2⟩ := again2 (u10_imaged (p10_before s) s) (p10_lower s) (p10_upper s)
  obtain ⟨g3, d3, r3⟩ := again3 (u10_imaged (p10_before s) s) (p10_limit s)
  have d1 : lp (fun z : Int32 × (Nat → Int32) × (Nat → Int32) × (Nat → Int32) × (Nat → Int32) × (Nat → Int32) => m_X10_again_0_0_15_l2 s z.1 z.2.1 z.2.2.1 z.2.2.2.1 z.2.2.2.2.1 z.2.2.2.2.2) fu ((0 : Int32), p10_raw s, p10_kind s, p10_figure s, p10_heavy s, p10_place s) = some g1 := d1
  have d2 : lp (fun z : Int32 × (Nat → Int32) × (Nat → Int32) => m_X10_again_0_0_15_l73 s z.1 z.2.1 z.2.2) fu ((0 : Int32), p10_lower s, p10_upper s) = some g2 := d2
  have d3 : lp (fun z : Int32 × (Nat → Int32) => m_X10_again_0_0_15_l111 s z.1 z.2) fu ((0 : Int32), p10_limit s) = some g3 := d3
  have r1 : ∀ i, i < 7 → g1.1 i = p10_before s i ∧ g1.2.1 i = p10_before s (7 + i) ∧ g1.2.2.1 i = p10_before s (14 + i) ∧ g1.2.2.2.1 i = p10_before s (21 + i) ∧ g1.2.2.2.2 i = p10_before s (28 + i) := r1
  have r2 : ∀ i, i < 12 → g2.1 i = p10_before s (35 + i) ∧ g2.2 i = p10_before s (47 + i) := r2
  have r3 : ∀ i, i < 5 → g3 i = p10_before s (59 + i) := r3
  obtain ⟨b1, ⟨b2, b3, b4, b5, b6⟩, ⟨b7, b8, b9⟩, ⟨b10, b11⟩, b12⟩ := h
  refine ⟨(p10_before s 64, g1.1, g1.2.1, g1.2.2.1, g1.2.2.2.1, g1.2.2.2.2, p10_before s 65, g2.1, g2.2, p10_before s 66, g3, p10_before s 67), ?_, b1, fun i hi => ((r1 i (by omega)).1).trans (b2 i hi), fun i hi => ((r1 i (by omega)).2.1).trans (b3 i hi), fun i hi => ((r1 i (by omega)).2.2.1).trans (b4 i hi), fun i hi => ((r1 i (by omega)).2.2.2.1).trans (b5 i hi), fun i hi => ((r1 i (by omega)).2.2.2.2).trans (b6 i hi), b7, fun i hi => ((r2 i (by omega)).1).trans (b8 i hi), fun i hi => ((r2 i (by omega)).2).trans (b9 i hi), b10, fun i hi => (r3 i (by omega)).trans (b11 i hi), b12⟩
  unfold m_X10_again_0_0_15
  rw [d1, Option.bind_some, d2, Option.bind_some, d3, Option.bind_some, if_pos (by decide), if_pos (by decide), if_pos (by decide), if_pos (by decide)]
  rfl
theorem nI_div {a b : Nat} (ha : a < 2 ^ 31) (hb : b < 2 ^ 31) (h : 0 < b) : nI a / nI b = nI (a / b) := by
  have hl := Nat.div_le_self a b
  rw [← Int32.toInt_inj, Int32.toInt_div_of_ne_right _ _ (fun e => ?_), nI_toInt ha, nI_toInt hb, nI_toInt (by omega)]
  · exact (Int.ofNat_tdiv a b).symm
  · have := congrArg Int32.toInt e
    rw [nI_toInt hb, show (-1 : Int32).toInt = -1 from rfl] at this
    omega
theorem draw_in (z : Int32) : ∃ v, v ≤ 99 ∧ (z &&& 2147483647) / 256 - (z &&& 2147483647) / 256 / 100 * 100 = nI v := by
  obtain ⟨m, hm, e⟩ : ∃ m : Nat, m < 2 ^ 31 ∧ z &&& 2147483647 = nI m := by
    refine ⟨z.toBitVec.toNat &&& 2147483647, Nat.lt_of_le_of_lt Nat.and_le_right (by decide), ?_⟩
    apply Int32.toBitVec_inj.mp
    rw [Int32.toBitVec_and]
    refine BitVec.eq_of_toNat_eq ?_
    rw [BitVec.toNat_and]
    show z.toBitVec.toNat &&& 2147483647 = (z.toBitVec.toNat &&& 2147483647) % 2 ^ 32
    rw [Nat.mod_eq_of_lt (Nat.lt_of_le_of_lt Nat.and_le_right (by decide))]
  have h1 := Nat.div_le_self m 256
  have h2 := Nat.div_le_self (m / 256) 100
  have h3 := Nat.div_mul_le_self (m / 256) 100
  have h4 := Nat.div_add_mod (m / 256) 100
  have h5 := Nat.mod_lt (m / 256) (show 0 < 100 by decide)
  refine ⟨m / 256 % 100, by omega, ?_⟩
  rw [e, show (256 : Int32) = nI 256 from rfl, show (100 : Int32) = nI 100 from rfl, nI_div hm (by decide) (by decide), nI_div (by omega) (by decide) (by decide), nI_mul, nI_sub h3]
  congr 1
  omega
def aRaws (A : Sh) (R : Nat → Nat) : Sh := (hN A, R, hK A, hF A, hH A, hP A, hU A, hL A, hO A, hB A, hM A, hT A)
theorem okRaws {A : Sh} (hok : okS A) {R : Nat → Nat} (hR : ∀ p, p < hN A → R p ≤ 99) : okS (aRaws A R) := by
  obtain ⟨⟨h1, h2⟩, h3⟩ := hok
  exact ⟨⟨h1, fun q hq => ⟨hR q hq, (h2 q hq).2⟩⟩, h3⟩
