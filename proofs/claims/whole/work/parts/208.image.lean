/-! image, on: the kept copy -/
theorem c_add (a k : Nat) : nI a + nI k = nI (a + k) := nI_add a k
theorem keeps1 (s : T10) (f : Nat → Int32) : ∃ g, lp (fun z : Int32 × (Nat → Int32) => m_X10_keeps_0_0_14_l2 s z.1 z.2) fu ((0 : Int32), f) = some g ∧ ∀ i, i < 7 → g i = p10_raw s i ∧ g (7 + i) = p10_kind s i ∧ g (14 + i) = p10_figure s i ∧ g (21 + i) = p10_heavy s i ∧ g (28 + i) = p10_place s i := by
  refine lp_invf (fun d z => ∃ k, k ≤ 7 ∧ d = 7 - k ∧ z.1 = nI k ∧ ∀ i, i < k → z.2 i = p10_raw s i ∧ z.2 (7 + i) = p10_kind s i ∧ z.2 (14 + i) = p10_figure s i ∧ z.2 (21 + i) = p10_heavy s i ∧ z.2 (28 + i) = p10_place s i) _ ?_ (d := 7) ⟨0, by decide, rfl, rfl, fun i h => absurd h (Nat.not_lt_zero i)⟩ (by decide)
  rintro d ⟨x, g⟩ ⟨k, hk, hd, hx, hg⟩
  have hx : x = nI k := hx
  subst hx
  by_cases c : k = 7
  · subst c
    exact Or.inr ⟨g, by unfold m_X10_keeps_0_0_14_l2; exact if_pos (show (7 : Int32) ≤ nI 7 by decide), hg⟩
  · refine Or.inl ⟨7 - (k + 1), (nI (k + 1), upd (upd (upd (upd (upd g k (p10_raw s k)) (7 + k) (p10_kind s k)) (14 + k) (p10_figure s k)) (21 + k) (p10_heavy s k)) (28 + k) (p10_place s k)), ?_, by omega, k + 1, by omega, rfl, rfl, ?_⟩
    · have i1 : inb (nI k) 7 = true := inb_nI (by omega) (by decide)
      have i2 : inb (nI k) 69 = true := inb_nI (by omega) (by decide)
      have i3 : ∀ a, a ≤ 60 → inb (nI a + nI k) 69 = true := fun a ha => by rw [c_add]; exact inb_nI (by omega) (by decide)
      have i4 : ∀ a, a ≤ 60 → (nI a + nI k).toNatClampNeg = a + k := fun a ha => by rw [c_add, nI_clamp (by omega)]
      have l7 : ¬ (7 : Int32) ≤ nI k := by rw [i_le, nI_toInt (by omega), show (7 : Int32).toInt = 7 from rfl]; omega
      unfold m_X10_keeps_0_0_14_l2
      simp only [show (7 : Int32) = nI 7 from rfl, show (14 : Int32) = nI 14 from rfl, show (21 : Int32) = nI 21 from rfl, show (28 : Int32) = nI 28 from rfl] at l7 ⊢
      rw [if_neg l7]
      simp only [i1, i2, i3 7 (by decide), i3 14 (by decide), i3 21 (by decide), i3 28 (by decide), if_true]
      rw [i4 7 (by decide), i4 14 (by decide), i4 21 (by decide), i4 28 (by decide), nI_clamp (by omega), nI_1]
    · intro i hi
      show upd (upd (upd (upd (upd g k (p10_raw s k)) (7 + k) (p10_kind s k)) (14 + k) (p10_figure s k)) (21 + k) (p10_heavy s k)) (28 + k) (p10_place s k) i = _ ∧ upd (upd (upd (upd (upd g k (p10_raw s k)) (7 + k) (p10_kind s k)) (14 + k) (p10_figure s k)) (21 + k) (p10_heavy s k)) (28 + k) (p10_place s k) (7 + i) = _ ∧ upd (upd (upd (upd (upd g k (p10_raw s k)) (7 + k) (p10_kind s k)) (14 + k) (p10_figure s k)) (21 + k) (p10_heavy s k)) (28 + k) (p10_place s k) (14 + i) = _ ∧ upd (upd (upd (upd (upd g k (p10_raw s k)) (7 + k) (p10_kind s k)) (14 + k) (p10_figure s k)) (21 + k) (p10_heavy s k)) (28 + k) (p10_place s k) (21 + i) = _ ∧ upd (upd (upd (upd (upd g k (p10_raw s k)) (7 + k) (p10_kind s k)) (14 + k) (p10_figure s k)) (21 + k) (p10_heavy s k)) (28 + k) (p10_place s k) (28 + i) = _
      by_cases e : i = k
      · subst e
        refine ⟨?_, ?_, ?_, ?_, ?_⟩
        · rw [upd_ne (by omega), upd_ne (by omega), upd_ne (by omega), upd_ne (by omega), upd_at]
        · rw [upd_ne (by omega), upd_ne (by omega), upd_ne (by omega), upd_at]
        · rw [upd_ne (by omega), upd_ne (by omega), upd_at]
        · rw [upd_ne (by omega), upd_at]
        · rw [upd_at]
      · have h := hg i (by omega)
        refine ⟨?_, ?_, ?_, ?_, ?_⟩
        · rw [upd_ne (by omega), upd_ne (by omega), upd_ne (by omega), upd_ne (by omega), upd_ne (by omega)]; exact h.1
        · rw [upd_ne (by omega), upd_ne (by omega), upd_ne (by omega), upd_ne (by omega), upd_ne (by omega)]; exact h.2.1
        · rw [upd_ne (by omega), upd_ne (by omega), upd_ne (by omega), upd_ne (by omega), upd_ne (by omega)]; exact h.2.2.1
        · rw [upd_ne (by omega), upd_ne (by omega), upd_ne (by omega), upd_ne (by omega), upd_ne (by omega)]; exact h.2.2.2.1
        · rw [upd_ne (by omega), upd_ne (by omega), upd_ne (by omega), upd_ne (by omega), upd_ne (by omega)]; exact h.2.2.2.2
theorem keeps2 (s : T10) (f : Nat → Int32) : ∃ g, lp (fun z : Int32 × (Nat → Int32) => m_X10_keeps_0_0_14_l73 s z.1 z.2) fu ((0 : Int32), f) = some g ∧ ((∀ i, i < 35 → g i = f i) ∧ ∀ i, i < 12 → g (35 + i) = p10_lower s i ∧ g (47 + i) = p10_upper s i) := by
  refine lp_invf (fun d z => ∃ k, k ≤ 12 ∧ d = 12 - k ∧ z.1 = nI k ∧ (∀ i, i < 35 → z.2 i = f i) ∧ ∀ i, i < k → z.2 (35 + i) = p10_lower s i ∧ z.2 (47 + i) = p10_upper s i) _ ?_ (d := 12) ⟨0, by decide, rfl, rfl, fun i _ => rfl, fun i h => absurd h (Nat.not_lt_zero i)⟩ (by decide)
  rintro d ⟨x, g⟩ ⟨k, hk, hd, hx, hf, hg⟩
  have hx : x = nI k := hx
  subst hx
  by_cases c : k = 12
  · subst c
    exact Or.inr ⟨g, by unfold m_X10_keeps_0_0_14_l73; exact if_pos (show (12 : Int32) ≤ nI 12 by decide), hf, hg⟩
  · refine Or.inl ⟨12 - (k + 1), (nI (k + 1), upd (upd g (35 + k) (p10_lower s k)) (47 + k) (p10_upper s k)), ?_, by omega, k + 1, by omega, rfl, rfl, ?_, ?_⟩
    · have i1 : inb (nI k) 12 = true := inb_nI (by omega) (by decide)
      have i3 : ∀ a, a ≤ 50 → inb (nI a + nI k) 69 = true := fun a ha => by rw [c_add]; exact inb_nI (by omega) (by decide)
      have i4 : ∀ a, a ≤ 60 → (nI a + nI k).toNatClampNeg = a + k := fun a ha => by rw [c_add, nI_clamp (by omega)]
      have l7 : ¬ (12 : Int32) ≤ nI k := by rw [i_le, nI_toInt (by omega), show (12 : Int32).toInt = 12 from rfl]; omega
      unfold m_X10_keeps_0_0_14_l73
      simp only [show (35 : Int32) = nI 35 from rfl, show (47 : Int32) = nI 47 from rfl]
      rw [if_neg l7]
      simp only [i1, i3 35 (by decide), i3 47 (by decide), if_true]
      rw [i4 35 (by decide), i4 47 (by decide), nI_clamp (by omega), nI_1]
    · intro i hi
      show upd (upd g (35 + k) (p10_lower s k)) (47 + k) (p10_upper s k) i = f i
      rw [upd_ne (by omega), upd_ne (by omega)]
      exact hf i hi
    · intro i hi
      show upd (upd g (35 + k) (p10_lower s k)) (47 + k) (p10_upper s k) (35 + i) = _ ∧ upd (upd g (35 + k) (p10_lower s k)) (47 + k) (p10_upper s k) (47 + i) = _
      by_cases e : i = k
      · subst e
        exact ⟨by rw [upd_ne (by omega), upd_at], by rw [upd_at]⟩
      · have h := hg i (by omega)
        exact ⟨by rw [upd_ne (by omega), upd_ne (by omega)]; exact h.1, by rw [upd_ne (by omega), upd_ne (by omega)]; exact h.2⟩
