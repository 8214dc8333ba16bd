/-! image: both keep the same sheet -/
theorem keeps3 (s : T10) (f : Nat → Int32) : ∃ g, lp (fun z : Int32 × (Nat → Int32) => m_X10_keeps_0_0_14_l111 s z.1 z.2) fu ((0 : Int32), f) = some g ∧ ((∀ i, i < 59 → g i = f i) ∧ ∀ i, i < 5 → g (59 + i) = p10_limit s i) := by
  refine lp_invf (fun d z => ∃ k, k ≤ 5 ∧ d = 5 - k ∧ z.1 = nI k ∧ (∀ i, i < 59 → z.2 i = f i) ∧ ∀ i, i < k → z.2 (59 + i) = p10_limit s i) _ ?_ (d := 5) ⟨0, by decide, rfl, rfl, fun i _ => rfl, fun i h => absurd h (Nat.not_lt_zero i)⟩ (by decide)
  rintro d ⟨x, g⟩ ⟨k, hk, hd, hx, hf, hg⟩
  have hx : x = nI k := hx
  subst hx
  by_cases c : k = 5
  · subst c
    exact Or.inr ⟨g, by unfold m_X10_keeps_0_0_14_l111; exact if_pos (show (5 : Int32) ≤ nI 5 by decide), hf, hg⟩
  · refine Or.inl ⟨5 - (k + 1), (nI (k + 1), upd g (59 + k) (p10_limit s k)), ?_, by omega, k + 1, by omega, rfl, rfl, ?_, ?_⟩
    · have i1 : inb (nI k) 5 = true := inb_nI (by omega) (by decide)
      have i3 : inb (nI 59 + nI k) 69 = true := by rw [c_add]; exact inb_nI (by omega) (by decide)
      have i4 : (nI 59 + nI k).toNatClampNeg = 59 + k := by rw [c_add, nI_clamp (by omega)]
      have l7 : ¬ (5 : Int32) ≤ nI k := by rw [i_le, nI_toInt (by omega), i5]; omega
      unfold m_X10_keeps_0_0_14_l111
      simp only [show (59 : Int32) = nI 59 from rfl]
      rw [if_neg l7]
      simp only [i1, i3, if_true]
      rw [i4, nI_clamp (by omega), nI_1]
    · intro i hi
      show upd g (59 + k) (p10_limit s k) i = f i
      rw [upd_ne (by omega)]
      exact hf i hi
    · intro i hi
      show upd g (59 + k) (p10_limit s k) (59 + i) = _
      by_cases e : i = k
      · subst e
        rw [upd_at]
      · rw [upd_ne (by omega)]
        exact hg i (by omega)
theorem keeps10 {s : T10} {A : Sh} (h : S10 s A) (hok : okS A) : ∃ g, m_X10_keeps_0_0_14 s = some g ∧ SI10 g A := by
  have n7 := hok.1.1
  have n12 := hok.2.1.1
  have n5 := hok.2.2.1.1
  obtain ⟨g1, e1, q1⟩ := keeps1 s (p10_imaged s)
  obtain ⟨g2, e2, q2, r2⟩ := keeps2 s g1
  obtain ⟨g3, e3, q3, r3⟩ := keeps3 s g2
  obtain ⟨b1, ⟨b2, b3, b4, b5, b6⟩, ⟨b7, b8, b9⟩, ⟨b10, b11⟩, b12⟩ := h
  refine ⟨upd (upd (upd (upd g3 64 (p10_papers s)) 65 (p10_rules s)) 66 (p10_limits s)) 67 (p10_ties s), ?_, ?_⟩
  · unfold m_X10_keeps_0_0_14
    rw [e1, Option.bind_some, e2, Option.bind_some, e3, Option.bind_some, if_pos (by decide), if_pos (by decide), if_pos (by decide), if_pos (by decide)]
    rfl
  · have lo : ∀ i, i < 64 → upd (upd (upd (upd g3 64 (p10_papers s)) 65 (p10_rules s)) 66 (p10_limits s)) 67 (p10_ties s) i = g3 i := fun i hi => by rw [upd_ne (by omega), upd_ne (by omega), upd_ne (by omega), upd_ne (by omega)]
    refine ⟨?_, ⟨fun i hi => ?_, fun i hi => ?_, fun i hi => ?_, fun i hi => ?_, fun i hi => ?_⟩, ⟨?_, fun i hi => ?_, fun i hi => ?_⟩, ⟨?_, fun i hi => ?_⟩, ?_⟩
    · rw [upd_ne (by omega), upd_ne (by omega), upd_ne (by omega), upd_at, b1]
    · rw [lo i (by omega), q3 i (by omega), q2 i (by omega), (q1 i (by omega)).1, b2 i hi]
    · show upd _ 67 _ (7 + i) = _
      rw [lo _ (by omega), q3 _ (by omega), q2 _ (by omega), (q1 i (by omega)).2.1, b3 i hi]
    · show upd _ 67 _ (14 + i) = _
      rw [lo _ (by omega), q3 _ (by omega), q2 _ (by omega), (q1 i (by omega)).2.2.1, b4 i hi]
    · show upd _ 67 _ (21 + i) = _
      rw [lo _ (by omega), q3 _ (by omega), q2 _ (by omega), (q1 i (by omega)).2.2.2.1, b5 i hi]
    · show upd _ 67 _ (28 + i) = _
      rw [lo _ (by omega), q3 _ (by omega), q2 _ (by omega), (q1 i (by omega)).2.2.2.2, b6 i hi]
    · rw [upd_ne (by omega), upd_ne (by omega), upd_at, b7]
    · show upd _ 67 _ (35 + i) = _
      rw [lo _ (by omega), q3 _ (by omega), (r2 i (by omega)).1, b8 i hi]
    · show upd _ 67 _ (47 + i) = _
      rw [lo _ (by omega), q3 _ (by omega), (r2 i (by omega)).2, b9 i hi]
    · rw [upd_ne (by omega), upd_at, b10]
    · show upd _ 67 _ (59 + i) = _
      rw [lo _ (by omega), r3 i (by omega), b11 i hi]
    · rw [upd_at, b12]
