-- the reference's others
theorem oth_none {P p : Nat} (h : (oth P p).1 = true) : ∀ j, j < p → ¬ P.testBit j = true := by
  induction p with
  | zero => exact fun j hj => absurd hj (Nat.not_lt_zero j)
  | succ p ih =>
    rw [oth_s] at h
    by_cases q : P.testBit p = true
    · rw [if_pos q] at h; exact absurd h Bool.false_ne_true
    · rw [if_neg q] at h
      intro j hj
      by_cases e : j = p
      · rw [e]; exact q
      · exact ih h j (by omega)
theorem bit_over {P N j : Nat} (h : P < 2 ^ N) (hj : N ≤ j) : ¬ P.testBit j = true := fun q => by
  have := bit_lt h q
  omega
theorem oth_stop {P N : Nat} (h : P < 2 ^ N) : ∀ p, N ≤ p → oth P p = oth P N := by
  intro p
  induction p with
  | zero => intro hp; rw [show N = 0 by omega]
  | succ p ih =>
    intro hp
    by_cases e : N = p + 1
    · rw [e]
    · rw [oth_s, if_neg (bit_over h (by omega)), ih (by omega)]
theorem others10 {s : T10} {P N : Nat} (hN : N ≤ 7) (hP : P < 2 ^ N) (hn : p10_papers s = nI N) {l0 : List Nat} (hl : l0.length ≤ 35) (h : SDl (p10_said s) (p10_saids s) l0) : ∃ r n, m_X10_sayOthers s (nI P) = some (r, n) ∧ SDl r n (l0 ++ (oth P 7).2) := by
  have h2 : P < 2 ^ 31 := Nat.lt_of_lt_of_le hP (Nat.pow_le_pow_right (by decide) (by omega))
  have h8 : (WDw 8).length = 6 := by rw [WDw_len]; rfl
  rw [oth_stop hP 7 hN]
  by_cases p0 : P = 0
  · refine ⟨p10_said s, p10_saids s, ?_, ?_⟩
    · unfold m_X10_sayOthers
      rw [p0, if_pos (show nI 0 = 0 from rfl)]
    · have : (oth P N).2 = [] := by
        subst p0
        clear hP hn h2 hN
        induction N with
        | zero => rfl
        | succ N ih => rw [oth_s, if_neg (by rw [Nat.zero_testBit]; decide)]; exact ih
      rw [this, List.append_nil]; exact h
  · obtain ⟨r1, n1, e1, t1⟩ := sd_s h (w := 8) (by decide) (by rw [← WDw_len, h8]; omega)
    have hlp := lp_invf (f := fun z : Int32 × Int32 × (Nat → Int32) × Int32 => m_X10_sayOthers_l16 s (nI P) z.1 z.2.1 z.2.2.1 z.2.2.2) (fun d z => ∃ p, z.1 = (if (oth P p).1 = true then (1 : Int32) else 0) ∧ z.2.1 = nI p ∧ p ≤ N ∧ d = N - p ∧ SDl z.2.2.1 z.2.2.2 (l0 ++ (if (oth P p).1 = true then WDw 8 else (oth P p).2))) (fun r => SDl r.1 r.2 (l0 ++ (oth P N).2)) ?_ (d := N) (s := ((1 : Int32), (0 : Int32), r1, n1)) ⟨0, rfl, rfl, Nat.zero_le _, rfl, t1⟩ (by omega)
    · obtain ⟨r, e2, t2⟩ := hlp
      refine ⟨r.1, r.2, ?_, t2⟩
      unfold m_X10_sayOthers
      rw [if_neg (show ¬ nI P = 0 from fun k => p0 (nI_inj (b := 0) h2 (by decide) k)), e1, Option.bind_some, e2, Option.bind_some]
    · rintro d ⟨z1, z2, z3, z4⟩ ⟨p, i1, i2, hp, hd, t⟩
      dsimp only at i1 i2 t ⊢
      subst i1 i2
      obtain ⟨a1, a2⟩ := oth_len P p (by omega)
      by_cases q : p = N
      · right
        refine ⟨(z3, z4), ?_, ?_⟩
        · unfold m_X10_sayOthers_l16
          rw [hn, if_pos ((nI_lei (by omega) (by omega)).2 (by omega))]
        · subst q
          have hf : ¬ (oth P p).1 = true := fun k => p0 (by
            refine Nat.eq_of_testBit_eq (fun j => ?_)
            rw [Nat.zero_testBit]
            by_cases hj : j < p
            · have := oth_none k j hj; simp at this; exact this
            · have := bit_over hP (show p ≤ j by omega); simp at this; exact this)
          rw [if_neg hf] at t
          exact t
      · left
        have hpn : ¬ nI N ≤ nI p := nI_ge (by omega) (by omega)
        have hd1 : (DGv p).length = 1 := by
          rw [DGv_len]
          have := lnN_cases p
          omega
        have hnum : (nI p).toInt64 = J (p : Int) := nI_64 (by omega)
        by_cases b : P.testBit p = true
        · by_cases f : (oth P p).1 = true
          · rw [if_pos f] at t
            obtain ⟨r2, n2, e2, t2⟩ := sd_n (s := u10_saids z4 (u10_said z3 s)) t (v := p) (by omega) (by rw [← DGv_len, List.length_append, h8]; omega)
            refine ⟨N - (p + 1), (0, nI (p + 1), r2, n2), ?_, by omega, p + 1, ?_, rfl, by omega, rfl, ?_⟩
            · unfold m_X10_sayOthers_l16
              rw [hn, if_neg hpn, has10 h2 (by omega), Option.bind_some, if_pos b, if_neg (show ¬ (1 : Int32) = 0 by decide), if_pos f, if_neg (show ¬ (1 : Int32) = 0 by decide), Option.bind_some]
              dsimp only
              rw [hnum, e2, Option.bind_some, nI_1]
            · show (0 : Int32) = _
              rw [oth_s, if_pos b]; rfl
            · dsimp only
              rw [oth_s, if_pos b]
              dsimp only
              rw [if_neg Bool.false_ne_true, if_pos f, a2 f, List.nil_append, ← List.append_assoc]
              exact t2
          · rw [if_neg f] at t
            obtain ⟨r2, n2, e2, t2⟩ := sd_c (s := u10_saids z4 (u10_said z3 s)) t (by rw [List.length_append]; omega) 44
            obtain ⟨r3, n3, e3, t3⟩ := sd_n (s := u10_saids n2 (u10_said r2 s)) t2 (v := p) (by omega) (by rw [← DGv_len, List.length_append, List.length_append, hd1]; show _ + 1 + 1 ≤ 60; omega)
            refine ⟨N - (p + 1), (0, nI (p + 1), r3, n3), ?_, by omega, p + 1, ?_, rfl, by omega, rfl, ?_⟩
            · unfold m_X10_sayOthers_l16
              rw [hn, if_neg hpn, has10 h2 (by omega), Option.bind_some, if_pos b, if_neg (show ¬ (1 : Int32) = 0 by decide), if_neg f, if_pos (show (0 : Int32) = 0 from rfl), show (44 : Int32) = nI 44 from rfl, e2, Option.bind_some, Option.bind_some]
              dsimp only
              rw [hnum, e3, Option.bind_some, nI_1]
            · show (0 : Int32) = _
              rw [oth_s, if_pos b]; rfl
            · dsimp only
              rw [oth_s, if_pos b]
              dsimp only
              rw [if_neg Bool.false_ne_true, if_neg f, WD_9, ← List.append_assoc, ← List.append_assoc]
              exact t3
        · refine ⟨N - (p + 1), (if (oth P p).1 = true then 1 else 0, nI (p + 1), z3, z4), ?_, by omega, p + 1, ?_, rfl, by omega, rfl, ?_⟩
          · unfold m_X10_sayOthers_l16
            rw [hn, if_neg hpn, has10 h2 (by omega), Option.bind_some, if_neg b, if_pos (show (0 : Int32) = 0 from rfl), nI_1]
          · dsimp only
            rw [oth_s, if_neg b]
          · dsimp only
            rw [oth_s, if_neg b]
            exact t
