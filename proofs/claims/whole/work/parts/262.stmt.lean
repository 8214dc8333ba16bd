-- a statement is read
def dg (x : Int32) : Bool := decide (48 ≤ x.toInt ∧ x.toInt ≤ 57)
def nmW (w : Nat) : Nat := if w = 1 then 3 else if w = 2 then 2 else if w = 3 then 2 else if w = 4 then 2 else 1
theorem nmW_le : ∀ w, w < 8 → nmW w ≤ 3 := by decide
theorem nm9 : ∀ w, w < 8 → m_X3_numbersOf (nI w) = some (nI (nmW w)) := by decide +kernel
theorem nm10 : ∀ w, w < 8 → m_X10_numbersOf (nI w) = some (nI (nmW w)) := by decide +kernel
theorem dg9 (x : Int32) : m_X3_isDigit x = some (if dg x = true then 1 else 0) := by
  unfold m_X3_isDigit dg
  have e48 : (48 : Int32).toInt = 48 := rfl
  have e57 : (57 : Int32).toInt = 57 := rfl
  by_cases q1 : x < 48
  · rw [if_pos q1, if_neg (by rw [i_lt, e48] at q1; simp; omega)]
  · by_cases q2 : 57 < x
    · rw [if_neg q1, if_pos q2, if_neg (by rw [i_lt, e57] at q2; simp; omega)]
    · rw [if_neg q1, if_neg q2, if_pos (by rw [i_lt, e48] at q1; rw [i_lt, e57] at q2; simp; omega)]
theorem dg10 {t : T10} {n k : Nat} {c : Nat → Nat} (h1 : p10_letters t = nI n) (h2 : Eqn (p10_letter t) c n) (hn : n ≤ 120) (hk : k < 2 ^ 20) (h3 : p10_at t = nI k) : m_X10_isDigit t = some (if dg (SG c n k) = true then 1 else 0) := by
  unfold m_X10_isDigit
  rw [here10 h1 h2 hn hk h3, Option.bind_some, in10, Option.bind_some]
  unfold dg
  have e48 : (48 : Int32).toInt = 48 := rfl
  have e57 : (57 : Int32).toInt = 57 := rfl
  rw [e48, e57]
  by_cases q : 48 ≤ (SG c n k).toInt ∧ (SG c n k).toInt ≤ 57
  · rw [if_pos q, if_pos (decide_eq_true q)]
  · rw [if_neg q, if_neg (by simp; omega)]
theorem upd_upd (f : Nat → Int32) (k : Nat) (x y : Int32) : upd (upd f k x) k y = upd f k y := by
  funext j
  by_cases e : j = k
  · subst e; rw [upd_at, upd_at]
  · rw [upd_ne e, upd_ne e, upd_ne e]
def two (S : Nat → Int32) (a : Nat) : Int32 := 10 * (S (a + 1) - 48) + S (a + 2) - 48
def rdN (S : Nat → Int32) : Nat → Nat → Nat → (Nat → Int32) → Bool × Nat × (Nat → Int32)
  | 0, _, a, g => (true, a, g)
  | m + 1, k, a, g => if S a = 32 then (if dg (S (a + 1)) = true then (if dg (S (a + 2)) = true then rdN S m (k + 1) (a + 3) (upd g k (two S a)) else rdN S m (k + 1) (a + 2) (upd g k (S (a + 1) - 48))) else (false, a + 1, g)) else (false, a, g)
theorem num9 {s : T3} {n w : Nat} {c : Nat → Nat} (h1 : p3_size s = nI n) (h2 : Eqn (p3_signs s) c n) (hn : n ≤ 120) (hw : w < 8) (h3 : p3_word s = nI w) : ∀ m k a g fuel, m < fuel → k + m = nmW w → a + 3 * m ≤ 1000 → ∃ r, lp (fun z : Int32 × (Nat → Int32) × Int32 => m_X3_readNumbers_l2 s z.1 z.2.1 z.2.2) fuel (nI k, g, nI a) = some r ∧ (match r with | .inl x31 => some ((0 : Int32), x31.1, x31.2) | .inr (.inl x32) => some (0, x32.1, x32.2) | .inr (.inr x33) => some (1, x33.1, x33.2)) = some (if (rdN (SG c n) m k a g).1 = true then 1 else 0, (rdN (SG c n) m k a g).2.2, nI (rdN (SG c n) m k a g).2.1) := by
  have sg : ∀ g x k, k < 2 ^ 20 → m_X3_signAt (u3_at x (u3_numbers g s)) (nI k) = some (SG c n k) := fun g x k hk => sign9 (s := u3_at x (u3_numbers g s)) h1 h2 hn hk
  have hm3 := nmW_le w hw
  intro m
  induction m with
  | zero =>
    intro k a g fuel hf hk ha
    obtain ⟨f', rfl⟩ : ∃ f', fuel = f' + 1 := ⟨fuel - 1, by omega⟩
    refine ⟨.inr (.inr (g, nI a)), lp_inr ?_, rfl⟩
    show m_X3_readNumbers_l2 s (nI k) g (nI a) = _
    unfold m_X3_readNumbers_l2
    rw [h3, nm9 w hw, Option.bind_some, if_pos ((nI_lei (by omega) (by omega)).2 (by omega))]
  | succ m ih =>
    intro k a g fuel hf hk ha
    obtain ⟨f', rfl⟩ : ∃ f', fuel = f' + 1 := ⟨fuel - 1, by omega⟩
    have hlt : ¬ nI (nmW w) ≤ nI k := nI_ge (by omega) (by omega)
    unfold rdN
    by_cases q1 : SG c n a = 32
    · by_cases q2 : dg (SG c n (a + 1)) = true
      · by_cases q3 : dg (SG c n (a + 2)) = true
        · rw [if_pos q1, if_pos q2, if_pos q3]
          have e : m_X3_readNumbers_l2 s (nI k) g (nI a) = some (.inl (nI (k + 1), upd g k (two (SG c n) a), nI (a + 3))) := by
            unfold m_X3_readNumbers_l2
            rw [h3, nm9 w hw, Option.bind_some, if_neg hlt, sg g _ a (by omega), Option.bind_some, if_pos q1, nI_1 a, sg g _ (a + 1) (by omega), Option.bind_some, dg9, Option.bind_some, if_pos q2, if_neg (by decide), Option.bind_some, nI_1 (a + 1), sg g _ (a + 1 + 1) (by omega), Option.bind_some, dg9, Option.bind_some, if_pos q3, if_neg (by decide), Option.bind_some, Option.bind_some, Option.bind_some, set_in (by omega) (by decide), Option.bind_some, nI_1, nI_1]
            rfl
          rw [lp_inl e]
          exact ih (k + 1) (a + 3) _ f' (by omega) (by omega) (by omega)
        · rw [if_pos q1, if_pos q2, if_neg q3]
          have e : m_X3_readNumbers_l2 s (nI k) g (nI a) = some (.inl (nI (k + 1), upd g k (SG c n (a + 1) - 48), nI (a + 2))) := by
            unfold m_X3_readNumbers_l2
            rw [h3, nm9 w hw, Option.bind_some, if_neg hlt, sg g _ a (by omega), Option.bind_some, if_pos q1, nI_1 a, sg g _ (a + 1) (by omega), Option.bind_some, dg9, Option.bind_some, if_pos q2, if_neg (by decide), Option.bind_some, nI_1 (a + 1), sg g _ (a + 1 + 1) (by omega), Option.bind_some, dg9, Option.bind_some, if_neg q3, if_pos rfl, Option.bind_some, set_in (by omega) (by decide), Option.bind_some, nI_1]
          rw [lp_inl e]
          exact ih (k + 1) (a + 2) _ f' (by omega) (by omega) (by omega)
      · rw [if_pos q1, if_neg q2]
        refine ⟨.inr (.inl (g, nI (a + 1))), lp_inr ?_, rfl⟩
        show m_X3_readNumbers_l2 s (nI k) g (nI a) = _
        unfold m_X3_readNumbers_l2
        rw [h3, nm9 w hw, Option.bind_some, if_neg hlt, sg g _ a (by omega), Option.bind_some, if_pos q1, nI_1 a, sg g _ (a + 1) (by omega), Option.bind_some, dg9, Option.bind_some, if_neg q2, if_pos rfl]
    · rw [if_neg q1]
      refine ⟨.inl (g, nI a), lp_inr ?_, rfl⟩
      show m_X3_readNumbers_l2 s (nI k) g (nI a) = _
      unfold m_X3_readNumbers_l2
      rw [h3, nm9 w hw, Option.bind_some, if_neg hlt, sg g _ a (by omega), Option.bind_some, if_neg q1]
theorem nums9 {s : T3} {n w a : Nat} {c : Nat → Nat} (h1 : p3_size s = nI n) (h2 : Eqn (p3_signs s) c n) (hn : n ≤ 120) (hw : w < 8) (h3 : p3_word s = nI w) (h4 : p3_at s = nI a) (ha : a ≤ 900) : m_X3_readNumbers s = some (if (rdN (SG c n) (nmW w) 0 a (p3_numbers s)).1 = true then 1 else 0, (rdN (SG c n) (nmW w) 0 a (p3_numbers s)).2.2, nI (rdN (SG c n) (nmW w) 0 a (p3_numbers s)).2.1) := by
  have hm3 := nmW_le w hw
  obtain ⟨r, e1, e2⟩ := num9 h1 h2 hn hw h3 (nmW w) 0 a (p3_numbers s) fu (show nmW w < 300 by omega) (by omega) (by omega)
  unfold m_X3_readNumbers
  rw [h4, show (0 : Int32) = nI 0 from rfl, e1, Option.bind_some]
  exact e2
theorem rnum10 {t : T10} {n a k : Nat} {c : Nat → Nat} (h1 : p10_letters t = nI n) (h2 : Eqn (p10_letter t) c n) (hn : n ≤ 120) (h4 : p10_at t = nI a) (ha : a ≤ 1000) (hk : k < 3) : m_X10_readNumber t (nI k) = some (if SG c n a = 32 then (if dg (SG c n (a + 1)) = true then (if dg (SG c n (a + 2)) = true then (1, nI (a + 3), upd (p10_number t) k (two (SG c n) a)) else (1, nI (a + 2), upd (p10_number t) k (SG c n (a + 1) - 48))) else (0, nI (a + 1), p10_number t)) else (0, nI a, p10_number t)) := by
  have d1 : m_X10_isDigit (u10_at (nI (a + 1)) t) = some (if dg (SG c n (a + 1)) = true then 1 else 0) := dg10 (t := u10_at (nI (a + 1)) t) h1 h2 hn (by omega) rfl
  have e1 : m_X10_here (u10_at (nI (a + 1)) t) = some (SG c n (a + 1)) := here10 (t := u10_at (nI (a + 1)) t) h1 h2 hn (by omega) rfl
  have d2 : ∀ g, m_X10_isDigit (u10_number g (u10_at (nI (a + 2)) t)) = some (if dg (SG c n (a + 2)) = true then 1 else 0) := fun g => dg10 (t := u10_number g (u10_at (nI (a + 2)) t)) h1 h2 hn (by omega) rfl
  have e2 : ∀ g, m_X10_here (u10_number g (u10_at (nI (a + 2)) t)) = some (SG c n (a + 2)) := fun g => here10 (t := u10_number g (u10_at (nI (a + 2)) t)) h1 h2 hn (by omega) rfl
  unfold m_X10_readNumber m_X10_takes
  rw [here10 h1 h2 hn (by omega) h4, Option.bind_some, h4]
  by_cases q1 : SG c n a = 32
  · rw [if_pos q1, if_pos q1, Option.bind_some, if_neg (show ¬ (1 : Int32) = 0 by decide)]
    dsimp only
    rw [nI_1 a, d1, Option.bind_some]
    by_cases q2 : dg (SG c n (a + 1)) = true
    · rw [if_pos q2, if_pos q2, if_neg (by decide), e1, Option.bind_some, if_pos (inb_nI hk (by decide)), nI_1 (a + 1), nI_clamp (by omega), d2, Option.bind_some]
      by_cases q3 : dg (SG c n (a + 2)) = true
      · rw [if_pos q3, if_pos q3, if_neg (by decide), if_pos (inb_nI hk (by decide)), e2, Option.bind_some, if_pos (inb_nI hk (by decide)), upd_upd, upd_at, nI_1]
        rfl
      · rw [if_neg q3, if_neg q3, if_pos rfl]
    · rw [if_neg q2, if_neg q2, if_pos rfl]
  · rw [if_neg q1, if_neg q1, Option.bind_some, if_pos (show (0 : Int32) = 0 from rfl)]
theorem num10 {t : T10} {n w : Nat} {c : Nat → Nat} (h1 : p10_letters t = nI n) (h2 : Eqn (p10_letter t) c n) (hn : n ≤ 120) (hw : w < 8) (y : Int32) : ∀ m k a g fuel, m < fuel → k + m = nmW w → a + 3 * m ≤ 1000 → lp (fun z : Int32 × Int32 × (Nat → Int32) => m_X10_statement_l16 t (nI w, y) z.1 z.2.1 z.2.2) fuel (nI k, nI a, g) = some (if (rdN (SG c n) m k a g).1 = true then .inr (nI (rdN (SG c n) m k a g).2.1, (rdN (SG c n) m k a g).2.2) else .inl (nI (rdN (SG c n) m k a g).2.1, (rdN (SG c n) m k a g).2.2)) := by
  have hm3 := nmW_le w hw
  have rn : ∀ g k a, a ≤ 1000 → k < 3 → m_X10_readNumber (u10_number g (u10_at (nI a) t)) (nI k) = some (if SG c n a = 32 then (if dg (SG c n (a + 1)) = true then (if dg (SG c n (a + 2)) = true then (1, nI (a + 3), upd g k (two (SG c n) a)) else (1, nI (a + 2), upd g k (SG c n (a + 1) - 48))) else (0, nI (a + 1), g)) else (0, nI a, g)) := fun g k a ha hk => rnum10 (t := u10_number g (u10_at (nI a) t)) h1 h2 hn rfl ha hk
  intro m
  induction m with
  | zero =>
    intro k a g fuel hf hk ha
    obtain ⟨f', rfl⟩ : ∃ f', fuel = f' + 1 := ⟨fuel - 1, by omega⟩
    refine lp_inr ?_
    show m_X10_statement_l16 t (nI w, y) (nI k) (nI a) g = _
    unfold m_X10_statement_l16
    rw [nm10 w hw, Option.bind_some, if_pos ((nI_lei (by omega) (by omega)).2 (by omega))]
    rfl
  | succ m ih =>
    intro k a g fuel hf hk ha
    obtain ⟨f', rfl⟩ : ∃ f', fuel = f' + 1 := ⟨fuel - 1, by omega⟩
    have hlt : ¬ nI (nmW w) ≤ nI k := nI_ge (by omega) (by omega)
    unfold rdN
    by_cases q1 : SG c n a = 32
    · by_cases q2 : dg (SG c n (a + 1)) = true
      · by_cases q3 : dg (SG c n (a + 2)) = true
        · rw [if_pos q1, if_pos q2, if_pos q3]
          have e : m_X10_statement_l16 t (nI w, y) (nI k) (nI a) g = some (.inl (nI (k + 1), nI (a + 3), upd g k (two (SG c n) a))) := by
            unfold m_X10_statement_l16
            rw [nm10 w hw, Option.bind_some, if_neg hlt, rn _ _ _ (by omega) (by omega), Option.bind_some, if_pos q1, if_pos q2, if_pos q3, if_neg (show ¬ (1 : Int32) = 0 by decide), nI_1]
          rw [lp_inl e]
          exact ih (k + 1) (a + 3) _ f' (by omega) (by omega) (by omega)
        · rw [if_pos q1, if_pos q2, if_neg q3]
          have e : m_X10_statement_l16 t (nI w, y) (nI k) (nI a) g = some (.inl (nI (k + 1), nI (a + 2), upd g k (SG c n (a + 1) - 48))) := by
            unfold m_X10_statement_l16
            rw [nm10 w hw, Option.bind_some, if_neg hlt, rn _ _ _ (by omega) (by omega), Option.bind_some, if_pos q1, if_pos q2, if_neg q3, if_neg (show ¬ (1 : Int32) = 0 by decide), nI_1]
          rw [lp_inl e]
          exact ih (k + 1) (a + 2) _ f' (by omega) (by omega) (by omega)
      · rw [if_pos q1, if_neg q2]
        refine lp_inr ?_
        show m_X10_statement_l16 t (nI w, y) (nI k) (nI a) g = _
        unfold m_X10_statement_l16
        rw [nm10 w hw, Option.bind_some, if_neg hlt, rn _ _ _ (by omega) (by omega), Option.bind_some, if_pos q1, if_neg q2, if_pos (show (0 : Int32) = 0 from rfl)]
        rfl
    · rw [if_neg q1]
      refine lp_inr ?_
      show m_X10_statement_l16 t (nI w, y) (nI k) (nI a) g = _
      unfold m_X10_statement_l16
      rw [nm10 w hw, Option.bind_some, if_neg hlt, rn _ _ _ (by omega) (by omega), Option.bind_some, if_neg q1, if_pos (show (0 : Int32) = 0 from rfl)]
      rfl
theorem rdN_g (S : Nat → Int32) : ∀ m k a g h, (rdN S m k a g).1 = (rdN S m k a h).1 ∧ (rdN S m k a g).2.1 = (rdN S m k a h).2.1 ∧ ((rdN S m k a g).1 = true → ∀ i, i < k + m → (k ≤ i ∨ g i = h i) → (rdN S m k a g).2.2 i = (rdN S m k a h).2.2 i) ∧ a ≤ (rdN S m k a g).2.1 ∧ (rdN S m k a g).2.1 ≤ a + 3 * m := by
  intro m
  induction m with
  | zero => exact fun k a g h => ⟨rfl, rfl, fun _ i hi hc => hc.elim (fun q => absurd hi (by omega)) id, Nat.le_refl _, Nat.le_refl _⟩
  | succ m ih =>
    intro k a g h
    unfold rdN
    by_cases q1 : S a = 32
    · by_cases q2 : dg (S (a + 1)) = true
      · by_cases q3 : dg (S (a + 2)) = true
        · rw [if_pos q1, if_pos q2, if_pos q3, if_pos q1, if_pos q2, if_pos q3]
          obtain ⟨i1, i2, i3, i4, i5⟩ := ih (k + 1) (a + 3) (upd g k (two S a)) (upd h k (two S a))
          refine ⟨i1, i2, fun hy i hi hc => i3 hy i (by omega) ?_, by omega, by omega⟩
          by_cases e : i = k
          · right; rw [e, upd_at, upd_at]
          · rcases hc with hc | hc
            · left; omega
            · right; rw [upd_ne e, upd_ne e, hc]
        · rw [if_pos q1, if_pos q2, if_neg q3, if_pos q1, if_pos q2, if_neg q3]
          obtain ⟨i1, i2, i3, i4, i5⟩ := ih (k + 1) (a + 2) (upd g k (S (a + 1) - 48)) (upd h k (S (a + 1) - 48))
          refine ⟨i1, i2, fun hy i hi hc => i3 hy i (by omega) ?_, by omega, by omega⟩
          by_cases e : i = k
          · right; rw [e, upd_at, upd_at]
          · rcases hc with hc | hc
            · left; omega
            · right; rw [upd_ne e, upd_ne e, hc]
      · rw [if_pos q1, if_neg q2, if_pos q1, if_neg q2]
        exact ⟨rfl, rfl, fun hy => absurd hy Bool.false_ne_true, by show a ≤ a + 1; omega, by show a + 1 ≤ _; omega⟩
    · rw [if_neg q1, if_neg q1]
      exact ⟨rfl, rfl, fun hy => absurd hy Bool.false_ne_true, Nat.le_refl _, by show a ≤ _; omega⟩
