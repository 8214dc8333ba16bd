/-! on: both take the kept sheet again -/
theorem again1 (s : T10) (f1 f2 f3 f4 f5 : Nat → Int32) : ∃ g, lp (fun z : Int32 × (Nat → Int32) × (Nat → Int32) × (Nat → Int32) × (Nat → Int32) × (Nat → Int32) => m_X10_again_0_0_14_l2 s z.1 z.2.1 z.2.2.1 z.2.2.2.1 z.2.2.2.2.1 z.2.2.2.2.2) fu ((0 : Int32), f1, f2, f3, f4, f5) = some g ∧ ∀ i, i < 7 → g.1 i = p10_imaged s i ∧ g.2.1 i = p10_imaged s (7 + i) ∧ g.2.2.1 i = p10_imaged s (14 + i) ∧ g.2.2.2.1 i = p10_imaged s (21 + i) ∧ g.2.2.2.2 i = p10_imaged s (28 + i) := by
  refine lp_invf (fun d z => ∃ k, k ≤ 7 ∧ d = 7 - k ∧ z.1 = nI k ∧ ∀ i, i < k → z.2.1 i = p10_imaged s i ∧ z.2.2.1 i = p10_imaged s (7 + i) ∧ z.2.2.2.1 i = p10_imaged s (14 + i) ∧ z.2.2.2.2.1 i = p10_imaged s (21 + i) ∧ z.2.2.2.2.2 i = p10_imaged s (28 + i)) _ ?_ (d := 7) ⟨0, by decide, rfl, rfl, fun i h => absurd h (Nat.not_lt_zero i)⟩ (by decide)
  rintro d ⟨x, g1, g2, g3, g4, g5⟩ ⟨k, hk, hd, hx, hg⟩
  have hx : x = nI k := hx
  subst hx
  by_cases c : k = 7
  · subst c
    exact Or.inr ⟨(g1, g2, g3, g4, g5), by unfold m_X10_again_0_0_14_l2; exact if_pos (show (7 : Int32) ≤ nI 7 by decide), hg⟩
  · refine Or.inl ⟨7 - (k + 1), (nI (k + 1), upd g1 k (p10_imaged s k), upd g2 k (p10_imaged s (7 + k)), upd g3 k (p10_imaged s (14 + k)), upd g4 k (p10_imaged s (21 + k)), upd g5 k (p10_imaged s (28 + k))), ?_, by omega, k + 1, by omega, rfl, rfl, ?_⟩
    · have i1 : inb (nI k) 7 = true := inb_nI (by omega) (by decide)
      have i2 : inb (nI k) 69 = true := inb_nI (by omega) (by decide)
      have i3 : ∀ a, a ≤ 60 → inb (nI a + nI k) 69 = true := fun a ha => by rw [c_add]; exact inb_nI (by omega) (by decide)
      have i4 : ∀ a, a ≤ 60 → (nI a + nI k).toNatClampNeg = a + k := fun a ha => by rw [c_add, nI_clamp (by omega)]
      have l7 : ¬ (7 : Int32) ≤ nI k := by rw [i_le, nI_toInt (by omega), show (7 : Int32).toInt = 7 from rfl]; omega
      unfold m_X10_again_0_0_14_l2
      simp only [show (7 : Int32) = nI 7 from rfl, show (14 : Int32) = nI 14 from rfl, show (21 : Int32) = nI 21 from rfl, show (28 : Int32) = nI 28 from rfl] at l7 ⊢
      rw [if_neg l7]
      simp only [i1, i2, i3 7 (by decide), i3 14 (by decide), i3 21 (by decide), i3 28 (by decide), if_true]
      rw [i4 7 (by decide), i4 14 (by decide), i4 21 (by decide), i4 28 (by decide), nI_clamp (by omega), nI_1]
    · intro i hi
      show upd g1 k _ i = _ ∧ upd g2 k _ i = _ ∧ upd g3 k _ i = _ ∧ upd g4 k _ i = _ ∧ upd g5 k _ i = _
      by_cases e : i = k
      · subst e
        exact ⟨upd_at, upd_at, upd_at, upd_at, upd_at⟩
      · rw [upd_ne e, upd_ne e, upd_ne e, upd_ne e, upd_ne e]
        exact hg i (by omega)
theorem again2 (s : T10) (f1 f2 : Nat → Int32) : ∃ g, lp (fun z : Int32 × (Nat → Int32) × (Nat → Int32) => m_X10_again_0_0_14_l73 s z.1 z.2.1 z.2.2) fu ((0 : Int32), f1, f2) = some g ∧ ∀ i, i < 12 → g.1 i = p10_imaged s (35 + i) ∧ g.2 i = p10_imaged s (47 + i) := by
  refine lp_invf (fun d z => ∃ k, k ≤ 12 ∧ d = 12 - k ∧ z.1 = nI k ∧ ∀ i, i < k → z.2.1 i = p10_imaged s (35 + i) ∧ z.2.2 i = p10_imaged s (47 + i)) _ ?_ (d := 12) ⟨0, by decide, rfl, rfl, fun i h => absurd h (Nat.not_lt_zero i)⟩ (by decide)
  rintro d ⟨x, g1, g2⟩ ⟨k, hk, hd, hx, hg⟩
  have hx : x = nI k := hx
  subst hx
  by_cases c : k = 12
  · subst c
    exact Or.inr ⟨(g1, g2), by unfold m_X10_again_0_0_14_l73; exact if_pos (show (12 : Int32) ≤ nI 12 by decide), hg⟩
  · refine Or.inl ⟨12 - (k + 1), (nI (k + 1), upd g1 k (p10_imaged s (35 + k)), upd g2 k (p10_imaged s (47 + k))), ?_, by omega, k + 1, by omega, rfl, rfl, ?_⟩
    · have i1 : inb (nI k) 12 = true := inb_nI (by omega) (by decide)
      have i3 : ∀ a, a ≤ 50 → inb (nI a + nI k) 69 = true := fun a ha => by rw [c_add]; exact inb_nI (by omega) (by decide)
      have i4 : ∀ a, a ≤ 60 → (nI a + nI k).toNatClampNeg = a + k := fun a ha => by rw [c_add, nI_clamp (by omega)]
      have l7 : ¬ (12 : Int32) ≤ nI k := by rw [i_le, nI_toInt (by omega), show (12 : Int32).toInt = 12 from rfl]; omega
      unfold m_X10_again_0_0_14_l73
      simp only [show (35 : Int32) = nI 35 from rfl, show (47 : Int32) = nI 47 from rfl]
      rw [if_neg l7]
      simp only [i1, i3 35 (by decide), i3 47 (by decide), if_true]
      rw [i4 35 (by decide), i4 47 (by decide), nI_clamp (by omega), nI_1]
    · intro i hi
      show upd g1 k _ i = _ ∧ upd g2 k _ i = _
      by_cases e : i = k
      · subst e
        exact ⟨upd_at, upd_at⟩
      · rw [upd_ne e, upd_ne e]
        exact hg i (by omega)
theorem again3 (s : T10) (f1 : Nat → Int32) : ∃ g, lp (fun z : Int32 × (Nat → Int32) => m_X10_again_0_0_14_l111 s z.1 z.2) fu ((0 : Int32), f1) = some g ∧ ∀ i, i < 5 → g i = p10_imaged s (59 + i) := by
  refine lp_invf (fun d z => ∃ k, k ≤ 5 ∧ d = 5 - k ∧ z.1 = nI k ∧ ∀ i, i < k → z.2 i = p10_imaged s (59 + i)) _ ?_ (d := 5) ⟨0, by decide, rfl, rfl, fun i h => absurd h (Nat.not_lt_zero i)⟩ (by decide)
  rintro d ⟨x, g1⟩ ⟨k, hk, hd, hx, hg⟩
  have hx : x = nI k := hx
  subst hx
  by_cases c : k = 5
  · subst c
    exact Or.inr ⟨g1, by unfold m_X10_again_0_0_14_l111; exact if_pos (show (5 : Int32) ≤ nI 5 by decide), hg⟩
  · refine Or.inl ⟨5 - (k + 1), (nI (k + 1), upd g1 k (p10_imaged s (59 + k))), ?_, by omega, k + 1, by omega, rfl, rfl, ?_⟩
    · have i1 : inb (nI k) 5 = true := inb_nI (by omega) (by decide)
      have i3 : inb (nI 59 + nI k) 69 = true := by rw [c_add]; exact inb_nI (by omega) (by decide)
      have i4 : (nI 59 + nI k).toNatClampNeg = 59 + k := by rw [c_add, nI_clamp (by omega)]
      have l7 : ¬ (5 : Int32) ≤ nI k := by rw [i_le, nI_toInt (by omega), i5]; omega
      unfold m_X10_again_0_0_14_l111
      simp only [show (59 : Int32) = nI 59 from rfl]
      rw [if_neg l7]
      simp only [i1, i3, if_true]
      rw [i4, nI_clamp (by omega), nI_1]
    · intro i hi
      show upd g1 k _ i = _
      by_cases e : i = k
      · subst e
        exact upd_at
      · rw [upd_ne e]
        exact hg i (by omega)
