-- one told statement: what the sheet takes, and what the reference does
def Q12 (n : Int32) (r k f h p : Nat → Int32) (u : Int32) (l o : Nat → Int32) (b : Int32) (m : Nat → Int32) (t : Int32) (A : Sh) : Prop := n = nI (hN A) ∧ (Eqn r (hR A) (hN A) ∧ Eqn k (hK A) (hN A) ∧ Eqn f (hF A) (hN A) ∧ Eqn h (hH A) (hN A) ∧ Eqn p (hP A) (hN A)) ∧ (u = nI (hU A) ∧ Eqn l (hL A) (hU A) ∧ Eqn o (hO A) (hU A)) ∧ (b = nI (hB A) ∧ Eqn m (hM A) (hB A)) ∧ t = nI (hT A)
theorem counted_cases {s : T9} {x : Int32} {y : Int32 × (Nat → Int32)} (h : m_X9_counted s x = some y) (hx : ¬ x < -6) : y.1 = x ∧ ((0 ≤ x ∧ y.2 = p9_refusals s) ∨ (¬ 0 ≤ x ∧ ∃ k, k < 7 ∧ -x = nI k ∧ y.2 = cnt (p9_refusals s) k)) := by
  have e1 : (-1 : Int32).toInt = -1 := rfl
  have e6 : (-6 : Int32).toInt = -6 := rfl
  by_cases q : -1 < x
  · unfold m_X9_counted at h
    rw [if_pos q] at h
    injection h with h
    subst h
    refine ⟨rfl, Or.inl ⟨?_, rfl⟩⟩
    rw [i_lt, e1] at q
    rw [i_le, z32]; omega
  · have q' := q
    have hx' := hx
    rw [i_lt, e1] at q'
    rw [i_lt, e6] at hx'
    have hk : -x = nI (-x.toInt).toNat := by
      rw [i_eq, nI_toInt (by omega), Int32.toInt_neg, Int.bmod_eq_of_le (by omega) (by omega)]
      omega
    rw [counted_neg (k := (-x.toInt).toNat) s q hx (by omega) hk] at h
    injection h with h
    subst h
    refine ⟨rfl, Or.inr ⟨?_, (-x.toInt).toNat, by omega, hk, rfl⟩⟩
    rw [i_le, z32]; omega
theorem na9 {s : T3} {i : Nat} (h : i < 3) : m_X3_numberAt s (nI i) = some (p3_numbers s i) := by
  unfold m_X3_numberAt
  rw [get_in h (by decide), Option.bind_some]
theorem nn_p : ∀ n, n < 8 → ¬ (nI n + 1 - 1 < (-6 : Int32)) ∧ ¬ (nI n + 1 < (-6 : Int32)) ∧ ¬ (nI n < (-6 : Int32)) := by decide +kernel
theorem nn_u : ∀ n, n < 13 → ¬ (nI n + 1 - 1 < (-6 : Int32)) ∧ ¬ (nI n - 1 < (-6 : Int32)) := by decide +kernel
theorem nn_k : ∀ k, k < 6 → ∀ f, f < 10 → ¬ (10 * nI k + nI f < (-6 : Int32)) ∧ ¬ (nI f < (-6 : Int32)) := by decide +kernel
theorem hp_cases {s : T6} {A : Sh} (h : S6 s A) (hok : okS A) {x : Int32} {y : Int32} (e : m_X6_hasPaper s x = some y) (hy : ¬ y = 0) : ∃ p, p < hN A ∧ x = nI p := by
  have n7 := hok.1.1
  unfold m_X6_hasPaper at e
  rw [h.1] at e
  by_cases q1 : x < 0
  · rw [if_pos q1] at e; injection e with e; exact absurd e.symm hy
  · by_cases q2 : nI (hN A) ≤ x
    · rw [if_neg q1, if_pos q2] at e; injection e with e; exact absurd e.symm hy
    · rw [i_lt, z32] at q1
      rw [i_le, nI_toInt (by omega)] at q2
      exact ⟨x.toInt.toNat, by omega, nI_ofInt (by omega)⟩
theorem code_paper {s : T6} {A : Sh} (h : S6 s A) (hok : okS A) {x : Int32} {r} (e : m_X6_addPaper s x = some r) : ¬ r.1 < (-6 : Int32) := by
  have n7 := hok.1.1
  have n12 := hok.2.1.1
  have n5 := hok.2.2.1.1
  have n2 := hok.2.2.2
  unfold m_X6_addPaper at e
  split at e
  · split at e
    · (injection e with e; subst e; dsimp only; decide)
    · split at e
      · obtain ⟨x1, -, e⟩ := Option.bind_eq_some_iff.1 e
        obtain ⟨x2, -, e⟩ := Option.bind_eq_some_iff.1 e
        obtain ⟨x3, -, e⟩ := Option.bind_eq_some_iff.1 e
        obtain ⟨x4, -, e⟩ := Option.bind_eq_some_iff.1 e
        obtain ⟨x5, -, e⟩ := Option.bind_eq_some_iff.1 e
        injection e with e
        subst e
        show ¬ (p6_papers s + 1 - 1 < (-6 : Int32))
        rw [h.1]
        exact (nn_p _ (by omega)).1
      · (injection e with e; subst e; dsimp only; decide)
  · (injection e with e; subst e; dsimp only; decide)
theorem code_kind {s : T6} {A : Sh} (h : S6 s A) (hok : okS A) {x y z : Int32} {r} (e : m_X6_setKind s x y z = some r) : ¬ r.1 < (-6 : Int32) := by
  have n7 := hok.1.1
  have n12 := hok.2.1.1
  have n5 := hok.2.2.1.1
  have n2 := hok.2.2.2
  unfold m_X6_setKind at e
  obtain ⟨x1, h1, e⟩ := Option.bind_eq_some_iff.1 e
  split at e
  · (injection e with e; subst e; dsimp only; decide)
  · rename_i hy
    obtain ⟨p, hp, rfl⟩ := hp_cases h hok h1 hy
    split at e
    · (injection e with e; subst e; dsimp only; decide)
    · split at e
      · split at e
        · split at e
          · obtain ⟨x2, h2, e⟩ := Option.bind_eq_some_iff.1 e
            obtain ⟨x3, h3, e⟩ := Option.bind_eq_some_iff.1 e
            obtain ⟨x4, -, e⟩ := Option.bind_eq_some_iff.1 e
            obtain ⟨x5, -, e⟩ := Option.bind_eq_some_iff.1 e
            injection e with e
            subst e
            rw [get_in (by omega) (by decide), h.2.1.2.1 p hp] at h2
            rw [get_in (by omega) (by decide), h.2.1.2.2.1 p hp] at h3
            injection h2 with h2
            injection h3 with h3
            subst h2 h3
            obtain ⟨-, o2, o3, -, -⟩ := hok.1.2 p hp
            exact (nn_k _ (by omega) _ (by omega)).1
          · (injection e with e; subst e; dsimp only; decide)
        · (injection e with e; subst e; dsimp only; decide)
      · (injection e with e; subst e; dsimp only; decide)
theorem code_heavy {s : T6} {A : Sh} (h : S6 s A) (hok : okS A) {x y : Int32} {r} (e : m_X6_setHeavy s x y = some r) : ¬ r.1 < (-6 : Int32) := by
  have n7 := hok.1.1
  have n12 := hok.2.1.1
  have n5 := hok.2.2.1.1
  have n2 := hok.2.2.2
  unfold m_X6_setHeavy at e
  obtain ⟨r', e', e⟩ := Option.bind_eq_some_iff.1 e
  injection e with e
  subst e
  unfold m_X6_swap_0_0_7 at e'
  obtain ⟨x1, h1, e⟩ := Option.bind_eq_some_iff.1 e'
  split at e
  · (injection e with e; subst e; dsimp only; decide)
  · rename_i hy
    obtain ⟨p, hp, rfl⟩ := hp_cases h hok h1 hy
    split at e
    · split at e
      · obtain ⟨x2, h2, e⟩ := Option.bind_eq_some_iff.1 e
        obtain ⟨x3, -, e⟩ := Option.bind_eq_some_iff.1 e
        injection e with e
        subst e
        rw [get_in (by omega) (by decide), h.2.1.2.2.2.1 p hp] at h2
        injection h2 with h2
        subst h2
        obtain ⟨-, -, -, o4, o5⟩ := hok.1.2 p hp
        exact (nn_k 0 (by decide) _ (by omega)).2
      · (injection e with e; subst e; dsimp only; decide)
    · (injection e with e; subst e; dsimp only; decide)
theorem code_place {s : T6} {A : Sh} (h : S6 s A) (hok : okS A) {x y : Int32} {r} (e : m_X6_setPlace s x y = some r) : ¬ r.1 < (-6 : Int32) := by
  have n7 := hok.1.1
  have n12 := hok.2.1.1
  have n5 := hok.2.2.1.1
  have n2 := hok.2.2.2
  unfold m_X6_setPlace at e
  obtain ⟨r', e', e⟩ := Option.bind_eq_some_iff.1 e
  injection e with e
  subst e
  unfold m_X6_swap_0_0_9 at e'
  obtain ⟨x1, h1, e⟩ := Option.bind_eq_some_iff.1 e'
  split at e
  · (injection e with e; subst e; dsimp only; decide)
  · rename_i hy
    obtain ⟨p, hp, rfl⟩ := hp_cases h hok h1 hy
    split at e
    · split at e
      · obtain ⟨x2, h2, e⟩ := Option.bind_eq_some_iff.1 e
        obtain ⟨x3, -, e⟩ := Option.bind_eq_some_iff.1 e
        injection e with e
        subst e
        rw [get_in (by omega) (by decide), h.2.1.2.2.2.2 p hp] at h2
        injection h2 with h2
        subst h2
        obtain ⟨-, -, -, o4, o5⟩ := hok.1.2 p hp
        exact (nn_k 0 (by decide) _ (by omega)).2
      · (injection e with e; subst e; dsimp only; decide)
    · (injection e with e; subst e; dsimp only; decide)
theorem code_rule {s : T6} {A : Sh} (h : S6 s A) (hok : okS A) {x y : Int32} {r} (e : m_X6_addRule s x y = some r) : ¬ r.1 < (-6 : Int32) := by
  have n7 := hok.1.1
  have n12 := hok.2.1.1
  have n5 := hok.2.2.1.1
  have n2 := hok.2.2.2
  unfold m_X6_addRule at e
  obtain ⟨x1, -, e⟩ := Option.bind_eq_some_iff.1 e
  split at e
  · (injection e with e; subst e; dsimp only; decide)
  · obtain ⟨x2, -, e⟩ := Option.bind_eq_some_iff.1 e
    split at e
    · obtain ⟨x3, -, e⟩ := Option.bind_eq_some_iff.1 e
      split at e
      · split at e
        · obtain ⟨x4, -, e⟩ := Option.bind_eq_some_iff.1 e
          obtain ⟨x5, -, e⟩ := Option.bind_eq_some_iff.1 e
          injection e with e
          subst e
          show ¬ (p6_rules s + 1 - 1 < (-6 : Int32))
          rw [h.2.2.1.1]
          exact (nn_u _ (by omega)).1
        · (injection e with e; subst e; dsimp only; decide)
      · (injection e with e; subst e; dsimp only; decide)
    · (injection e with e; subst e; dsimp only; decide)
theorem code_free {s : T6} {A : Sh} (h : S6 s A) (hok : okS A) {x : Int32} {r} (e : m_X6_takeRule s x = some r) : ¬ r.1 < (-6 : Int32) := by
  have n7 := hok.1.1
  have n12 := hok.2.1.1
  have n5 := hok.2.2.1.1
  have n2 := hok.2.2.2
  unfold m_X6_takeRule at e
  obtain ⟨x1, -, e⟩ := Option.bind_eq_some_iff.1 e
  split at e
  · (injection e with e; subst e; dsimp only; decide)
  · obtain ⟨x2, -, e⟩ := Option.bind_eq_some_iff.1 e
    obtain ⟨x3, -, e⟩ := Option.bind_eq_some_iff.1 e
    injection e with e
    subst e
    show ¬ (p6_rules s - 1 < (-6 : Int32))
    rw [h.2.2.1.1]
    exact (nn_u _ (by omega)).2
theorem code_limit {s : T6} {A : Sh} (h : S6 s A) (hok : okS A) {x : Int32} {r} (e : m_X6_addLimit s x = some r) : ¬ r.1 < (-6 : Int32) := by
  have n7 := hok.1.1
  have n12 := hok.2.1.1
  have n5 := hok.2.2.1.1
  have n2 := hok.2.2.2
  unfold m_X6_addLimit at e
  split at e
  · split at e
    · (injection e with e; subst e; dsimp only; decide)
    · split at e
      · obtain ⟨r', e', e⟩ := Option.bind_eq_some_iff.1 e
        have fin : ∀ r, ((m_X2_set 5 (p6_bounds s) (p6_boundCount s) x).bind fun x4 => some (p6_boundCount s + 1, x4, p6_boundCount s + 1)) = some r → ¬ r.1 < (-6 : Int32) := by
          intro r e
          obtain ⟨x4, -, e⟩ := Option.bind_eq_some_iff.1 e
          injection e with e
          subst e
          show ¬ (p6_boundCount s + 1 < (-6 : Int32))
          rw [h.2.2.2.1.1]
          exact (nn_p _ (by omega)).2.1
        split at e'
        · injection e' with e'
          subst e'
          exact fin _ e
        · obtain ⟨x5, -, e'⟩ := Option.bind_eq_some_iff.1 e'
          split at e'
          · injection e' with e'
            subst e'
            exact fin _ e
          · injection e' with e'
            subst e'
            injection e with e
            subst e
            dsimp only
            decide
      · (injection e with e; subst e; dsimp only; decide)
  · (injection e with e; subst e; dsimp only; decide)
theorem code_ties {s : T6} {A : Sh} (h : S6 s A) (hok : okS A) {x : Int32} {r} (e : m_X6_setTies s x = some r) : ¬ r.1 < (-6 : Int32) := by
  have n7 := hok.1.1
  have n12 := hok.2.1.1
  have n5 := hok.2.2.1.1
  have n2 := hok.2.2.2
  unfold m_X6_setTies at e
  split at e
  · (injection e with e; subst e; dsimp only; decide)
  · split at e
    · injection e with e
      subst e
      show ¬ (p6_tieWay s < (-6 : Int32))
      rw [h.2.2.2.2]
      exact (nn_p _ (by omega)).2.2
    · (injection e with e; subst e; dsimp only; decide)
