-- the others of the pool, said
def oth (P : Nat) : Nat → Bool × List Nat
  | 0 => (true, [])
  | p + 1 => if P.testBit p then (false, (oth P p).2 ++ WDw (if (oth P p).1 then 8 else 9) ++ DGv p) else oth P p
theorem oth_len (P : Nat) : ∀ p, p ≤ 7 → (oth P p).2.length ≤ 2 * p + 5 ∧ ((oth P p).1 = true → (oth P p).2 = []) := by
  intro p
  induction p with
  | zero => exact fun _ => ⟨Nat.zero_le _, fun _ => rfl⟩
  | succ p ih =>
    intro hp
    obtain ⟨i1, i2⟩ := ih (by omega)
    have hd : (DGv p).length = 1 := by
      rw [DGv_len]
      have := lnN_cases p
      omega
    have h8 : (WDw 8).length = 6 := by rw [WDw_len]; rfl
    have h9 : (WDw 9).length = 1 := by rw [WDw_len]; rfl
    unfold oth
    by_cases q : P.testBit p = true
    · rw [if_pos q]
      refine ⟨?_, fun h => absurd h Bool.false_ne_true⟩
      show ((oth P p).2 ++ WDw (if (oth P p).1 = true then 8 else 9) ++ DGv p).length ≤ _
      rw [List.length_append, List.length_append, hd]
      by_cases f : (oth P p).1 = true
      · rw [if_pos f, h8, i2 f, List.length_nil]
        omega
      · rw [if_neg f, h9]
        omega
    · rw [if_neg q]
      exact ⟨by omega, i2⟩
theorem oth_s (P p : Nat) : oth P (p + 1) = if P.testBit p then (false, (oth P p).2 ++ WDw (if (oth P p).1 then 8 else 9) ++ DGv p) else oth P p := rfl
theorem oth_one {P p : Nat} (hp : p < 7) {b : TSB} {l0 : List Nat} (hl : l0.length ≤ 35) {m : Nat} {f : Nat → Int32} {n : Int32} (h : TXl m f n (l0 ++ (oth P p).2)) (hP : P < 2 ^ 7) : ∃ m' f' n', (m_X9_hasBit (nI P) (nI p)).bind (fun x8 => if x8 = 0 then some ((if (oth P p).1 then 8 else 9 : Nat), m, f, n) else (m_J4_append_15ec4 (uSB_n n (uSB_f f (uSB_m m b))) (if (oth P p).1 then 8 else 9 : Nat)).bind fun x70 => (m_J4_append_bf812 (uSB_n x70.2.2 (uSB_f x70.2.1 (uSB_m x70.1 b))) (nI p)).bind fun x72 => some ((9 : Nat), x72.1, x72.2.1, x72.2.2)) = some ((if (oth P (p + 1)).1 then 8 else 9 : Nat), m', f', n') ∧ TXl m' f' n' (l0 ++ (oth P (p + 1)).2) := by
  have h2 : (2 : Nat) ^ 7 = 128 := by decide
  obtain ⟨i1, i2⟩ := oth_len P p (by omega)
  obtain ⟨j1, j2⟩ := oth_len P (p + 1) (by omega)
  rw [hasBit9 (by omega) (by omega), Option.bind_some]
  rw [oth_s] at j1 ⊢
  by_cases q : P.testBit p = true
  · rw [if_pos q] at j1 ⊢
    dsimp only at j1 ⊢
    rw [if_pos q, if_neg (show ¬ (1 : Int32) = 0 by decide)]
    rw [List.length_append, List.length_append] at j1
    obtain ⟨m1, f1, n1, e1, t1⟩ := tx_s (b := uSB_n n (uSB_f f (uSB_m m b))) h (w := if (oth P p).1 then 8 else 9) (by split <;> omega) (by rw [← WDw_len, List.length_append]; omega)
    obtain ⟨m2, f2, n2, e2, t2⟩ := tx_n (b := uSB_n n1 (uSB_f f1 (uSB_m m1 b))) t1 (v := p) (by omega) (by rw [← DGv_len, List.length_append, List.length_append]; omega)
    refine ⟨m2, f2, n2, ?_, ?_⟩
    · rw [e1, Option.bind_some]
      dsimp only
      rw [e2, Option.bind_some]
      rfl
    · rw [← List.append_assoc, ← List.append_assoc]
      exact t2
  · rw [if_neg q] at j1 ⊢
    rw [if_neg q, if_pos (show (0 : Int32) = 0 from rfl)]
    exact ⟨m, f, n, rfl, h⟩
theorem others9 {s : T9} {P : Nat} (hP : P < 2 ^ 7) {l0 : List Nat} (hl : l0.length ≤ 35) (h : TXl (pSB_m (p9_said s)) (pSB_f (p9_said s)) (pSB_n (p9_said s)) l0) : ∃ m f n, m_X9_sayOthers s (nI P) = some (m, f, n) ∧ TXl m f n (l0 ++ (oth P 7).2) := by
  have h0 : TXl (pSB_m (p9_said s)) (pSB_f (p9_said s)) (pSB_n (p9_said s)) (l0 ++ (oth P 0).2) := by
    rw [show (oth P 0).2 = [] from rfl, List.append_nil]; exact h
  obtain ⟨m0, f0, n0, e0, h1⟩ := oth_one (p := 0) (by decide) (b := p9_said s) hl h0 hP
  obtain ⟨m1, f1, n1, e1, h2⟩ := oth_one (p := 1) (by decide) (b := p9_said s) hl h1 hP
  obtain ⟨m2, f2, n2, e2, h3⟩ := oth_one (p := 2) (by decide) (b := p9_said s) hl h2 hP
  obtain ⟨m3, f3, n3, e3, h4⟩ := oth_one (p := 3) (by decide) (b := p9_said s) hl h3 hP
  obtain ⟨m4, f4, n4, e4, h5⟩ := oth_one (p := 4) (by decide) (b := p9_said s) hl h4 hP
  obtain ⟨m5, f5, n5, e5, h6⟩ := oth_one (p := 5) (by decide) (b := p9_said s) hl h5 hP
  obtain ⟨m6, f6, n6, e6, h7⟩ := oth_one (p := 6) (by decide) (b := p9_said s) hl h6 hP
  have e0 : (m_X9_hasBit (nI P) 0).bind (fun x1 => if x1 = 0 then some ((8 : Nat), pSB_m (p9_said s), pSB_f (p9_said s), pSB_n (p9_said s)) else (m_J4_append_15ec4 (p9_said s) (8 : Nat)).bind fun x74 => (m_J4_append_bf812 (uSB_n x74.2.2 (uSB_f x74.2.1 (uSB_m x74.1 (p9_said s)))) 0).bind fun x76 => some ((9 : Nat), x76.1, x76.2.1, x76.2.2)) = some ((if (oth P 1).1 then 8 else 9 : Nat), m0, f0, n0) := e0
  unfold m_X9_sayOthers
  refine ⟨m6, f6, n6, ?_, h7⟩
  obtain ⟨b0, c0, d0⟩ := Option.bind_eq_some_iff.1 e0
  obtain ⟨b1, c1, d1⟩ := Option.bind_eq_some_iff.1 e1
  obtain ⟨b2, c2, d2⟩ := Option.bind_eq_some_iff.1 e2
  obtain ⟨b3, c3, d3⟩ := Option.bind_eq_some_iff.1 e3
  obtain ⟨b4, c4, d4⟩ := Option.bind_eq_some_iff.1 e4
  obtain ⟨b5, c5, d5⟩ := Option.bind_eq_some_iff.1 e5
  obtain ⟨b6, c6, d6⟩ := Option.bind_eq_some_iff.1 e6
  have c0 : m_X9_hasBit (nI P) 0 = some b0 := c0
  have c1 : m_X9_hasBit (nI P) 1 = some b1 := c1
  have c2 : m_X9_hasBit (nI P) 2 = some b2 := c2
  have c3 : m_X9_hasBit (nI P) 3 = some b3 := c3
  have c4 : m_X9_hasBit (nI P) 4 = some b4 := c4
  have c5 : m_X9_hasBit (nI P) 5 = some b5 := c5
  have c6 : m_X9_hasBit (nI P) 6 = some b6 := c6
  rw [c0, Option.bind_some, d0, Option.bind_some]
  dsimp only
  rw [c1, Option.bind_some]
  refine (congrArg (fun o => Option.bind o _) d1).trans ?_
  rw [Option.bind_some]
  dsimp only
  rw [c2, Option.bind_some]
  refine (congrArg (fun o => Option.bind o _) d2).trans ?_
  rw [Option.bind_some]
  dsimp only
  rw [c3, Option.bind_some]
  refine (congrArg (fun o => Option.bind o _) d3).trans ?_
  rw [Option.bind_some]
  dsimp only
  rw [c4, Option.bind_some]
  refine (congrArg (fun o => Option.bind o _) d4).trans ?_
  rw [Option.bind_some]
  dsimp only
  rw [c5, Option.bind_some]
  refine (congrArg (fun o => Option.bind o _) d5).trans ?_
  rw [Option.bind_some]
  dsimp only
  rw [c6, Option.bind_some]
  refine (congrArg (fun o => Option.bind o _) d6).trans ?_
  rw [Option.bind_some]
