/-! CHANGE of the class by WORST; of all losses -/
def isM (A : Sh) (u d : Nat → Nat) (P : Nat → Bool) (M : Nat) : Prop := (∀ i, i < hN A → P i = true → dbl A u d i ≤ M) ∧ (M = 0 ∨ ∃ i, i < hN A ∧ P i = true ∧ dbl A u d i = M)
theorem isM_congr {A : Sh} {u d : Nat → Nat} {P Q : Nat → Bool} {M : Nat} (h : isM A u d P M) (e : ∀ i, i < hN A → P i = Q i) : isM A u d Q M := ⟨fun i hi hq => h.1 i hi (by rw [e i hi]; exact hq), h.2.imp id (fun ⟨i, a, b, c⟩ => ⟨i, a, by rw [← e i a]; exact b, c⟩)⟩
theorem mxd_isM (A : Sh) (u d : Nat → Nat) : isM A u d (fun _ => true) (mxd A u d (hN A)) := by
  have key : ∀ k, k ≤ hN A → (∀ i, i < k → dbl A u d i ≤ mxd A u d k) ∧ (mxd A u d k = 0 ∨ ∃ i, i < k ∧ dbl A u d i = mxd A u d k) := by
    intro k
    induction k with
    | zero => intro _; exact ⟨fun i hi => absurd hi (Nat.not_lt_zero i), Or.inl rfl⟩
    | succ k ih =>
      intro hk
      obtain ⟨h1, h2⟩ := ih (by omega)
      rw [mxd]
      by_cases c : dbl A u d k < mxd A u d k
      · rw [if_pos c]
        refine ⟨fun i hi => ?_, h2.imp id (fun ⟨i, a, b⟩ => ⟨i, by omega, b⟩)⟩
        rcases Nat.lt_or_ge i k with w | w
        · exact h1 i w
        · rw [show i = k by omega]; omega
      · rw [if_neg c]
        refine ⟨fun i hi => ?_, Or.inr ⟨k, by omega, rfl⟩⟩
        rcases Nat.lt_or_ge i k with w | w
        · have := h1 i w; omega
        · rw [show i = k by omega]; exact Nat.le_refl _
  obtain ⟨h1, h2⟩ := key (hN A) (Nat.le_refl _)
  exact ⟨fun i hi _ => h1 i hi, h2.imp id (fun ⟨i, a, b⟩ => ⟨i, a, rfl, b⟩)⟩
theorem isM_eq {A : Sh} {u d : Nat → Nat} {P : Nat → Bool} {M M' : Nat} (h : isM A u d P M) (k : isM A u d P M') : M = M' := by
  have half : ∀ {M M'}, isM A u d P M → isM A u d P M' → M ≤ M' := by
    intro M M' h k
    rcases h.2 with h | ⟨i, a, b, c⟩
    · omega
    · have := k.1 i a b
      omega
  have := half h k
  have := half k h
  omega
theorem addWorst8 {s : T8} {s1 : T1} {A : Sh} (hok : okS A) {W p M : Nat} (h : V9 s A (vU A 2 W) (vD A 2 W)) (hp : p < hN A) (hM : M ≤ 236) (h1 : p1_above s1 = J (mkRat (M : Int) 2).num) (h2 : p1_below s1 = J ((mkRat (M : Int) 2).den : Int)) : m_X8_addChange s s1 2 (nI p) = some (J (mkRat ((if dbl A (vU A 2 W) (vD A 2 W) p ≤ M then M else dbl A (vU A 2 W) (vD A 2 W) p : Nat) : Int) 2).num, J ((mkRat ((if dbl A (vU A 2 W) (vD A 2 W) p ≤ M then M else dbl A (vU A 2 W) (vD A 2 W) p : Nat) : Int) 2).den : Int)) := by
  have n7 := hok.1.1
  have b := val_bd hok (show 2 < 3 by decide) (W := W) hp
  have by' := byN_le hok hp b.2.2.1
  obtain ⟨dl, dl2⟩ := dbl_in hok (W := W) hp
  obtain ⟨m1, m2, m3, m4, m5⟩ := red_nat M (b := 2) (by decide)
  have g1 := Nat.div_le_self M (Nat.gcd M 2)
  have g2 := Nat.div_le_self 2 (Nat.gcd M 2)
  have rd : rng (vD A 2 W p : Int) := rng_nat (by omega)
  have rb : rng (byN A (vU A 2 W) (vD A 2 W) p : Int) := rng_nat (by omega)
  have e : mkRat (byN A (vU A 2 W) (vD A 2 W) p : Int) (vD A 2 W p) = mkRat (dbl A (vU A 2 W) (vD A 2 W) p : Int) 2 := by
    rw [Rat.mkRat_eq_iff (by omega) (by decide), ← Int.natCast_mul, ← Int.natCast_mul, dl, Nat.mul_comm]
  have cond : byN A (vU A 2 W) (vD A 2 W) p * (2 / Nat.gcd M 2) ≤ M / Nat.gcd M 2 * vD A 2 W p ↔ dbl A (vU A 2 W) (vD A 2 W) p ≤ M := by
    have pos : 0 < vD A 2 W p * (2 / Nat.gcd M 2) := Nat.mul_pos b.1 m3
    have e1 : byN A (vU A 2 W) (vD A 2 W) p * (2 / Nat.gcd M 2) * 2 = dbl A (vU A 2 W) (vD A 2 W) p * (vD A 2 W p * (2 / Nat.gcd M 2)) := by
      rw [← Nat.mul_assoc, dl, Nat.mul_right_comm, Nat.mul_comm _ 2]
    have e2 : M / Nat.gcd M 2 * vD A 2 W p * 2 = M * (vD A 2 W p * (2 / Nat.gcd M 2)) := by
      rw [Nat.mul_right_comm, m5, Nat.mul_assoc, Nat.mul_comm (2 / Nat.gcd M 2)]
    constructor
    · intro x
      refine Nat.le_of_mul_le_mul_right (c := vD A 2 W p * (2 / Nat.gcd M 2)) ?_ pos
      omega
    · intro x
      have := Nat.mul_le_mul_right (vD A 2 W p * (2 / Nat.gcd M 2)) x
      omega
  have i1 : byN A (vU A 2 W) (vD A 2 W) p * (2 / Nat.gcd M 2) ≤ 14868 * 2 := Nat.mul_le_mul (by omega) g2
  have i2 : M / Nat.gcd M 2 * vD A 2 W p ≤ 236 * 126 := Nat.mul_le_mul (by omega) b.2.1
  have bl : m_X1_isBelow s1 (J (byN A (vU A 2 W) (vD A 2 W) p : Int)) (J (vD A 2 W p : Int)) = some (if dbl A (vU A 2 W) (vD A 2 W) p ≤ M then 0 else 1) := by
    unfold m_X1_isBelow
    rw [h1, h2, m1, m2, J_mul, J_mul, ← Int.natCast_mul, ← Int.natCast_mul]
    have le := J_le (a := ((byN A (vU A 2 W) (vD A 2 W) p * (2 / Nat.gcd M 2) : Nat) : Int)) (b := ((M / Nat.gcd M 2 * vD A 2 W p : Nat) : Int)) (rng_nat (by omega)) (rng_nat (by omega))
    by_cases c : dbl A (vU A 2 W) (vD A 2 W) p ≤ M
    · rw [if_pos c, if_pos (le.mpr (Int.ofNat_le.mpr (cond.mpr c)))]
    · rw [if_neg c, if_neg (fun x => c (cond.mp (Int.ofNat_le.mp (le.mp x))))]
  unfold m_X8_addChange
  rw [get_in (by omega) (by decide), Option.bind_some, get_in (by omega) (by decide), Option.bind_some, get_in (by omega) (by decide), Option.bind_some, h.2.1 p hp, h.2.2 p hp, h.1.1 p hp, diff_J hok (by decide) hp, Option.bind_some, if_neg (show ¬ (2 : Int32) = 0 by decide), if_neg (show ¬ (2 : Int32) = 1 by decide), nI_64 (by omega), bl, Option.bind_some]
  by_cases c : dbl A (vU A 2 W) (vD A 2 W) p ≤ M
  · rw [if_pos c, if_pos rfl, if_pos c, h1, h2]
  · rw [if_neg c, if_neg (show ¬ (1 : Int32) = 0 by decide), if_neg c, make9 s1 rb b.1 rd, Option.bind_some, e]
theorem workWorst8 {s : T8} {A : Sh} (hok : okS A) {W : Nat} (h : V9 s A (vU A 2 W) (vD A 2 W)) (s1 : T1) : m_X8_workChange s s1 2 = some (J (mkRat (mxd A (vU A 2 W) (vD A 2 W) (hN A) : Int) 2).num, J ((mkRat (mxd A (vU A 2 W) (vD A 2 W) (hN A) : Int) 2).den : Int)) := by
  have n7 := hok.1.1
  have inner : ∀ pl, pl < 10 → ∀ M : Nat, M ≤ 236 → isM A (vU A 2 W) (vD A 2 W) (pro A pl 0) M → ∃ r, lp (fun z : Int32 × Int64 × Int64 => m_X8_workChange_l17_2 s s1 2 (nI pl) z.1 z.2.1 z.2.2) fu ((0 : Int32), J (mkRat (M : Int) 2).num, J ((mkRat (M : Int) 2).den : Int)) = some r ∧ ∃ M' : Nat, r = (J (mkRat (M' : Int) 2).num, J ((mkRat (M' : Int) 2).den : Int)) ∧ M' ≤ 236 ∧ isM A (vU A 2 W) (vD A 2 W) (pro A (pl + 1) 0) M' := by
    intro pl hpl M hM hm
    refine lp_invf (f := fun z : Int32 × Int64 × Int64 => m_X8_workChange_l17_2 s s1 2 (nI pl) z.1 z.2.1 z.2.2) (I := fun d z => ∃ k M, k ≤ hN A ∧ d = hN A - k ∧ z = (nI k, J (mkRat ((M : Nat) : Int) 2).num, J ((mkRat (M : Int) 2).den : Int)) ∧ M ≤ 236 ∧ isM A (vU A 2 W) (vD A 2 W) (pro A pl k) M) (Q := _) (d := hN A) ?_ ⟨0, M, Nat.zero_le _, rfl, rfl, hM, hm⟩ (by omega)
    rintro d z ⟨k, M, hk, hd, rfl, hM, hm⟩
    rcases Nat.lt_or_ge k (hN A) with w | w
    · obtain ⟨_, _, _, _, pb⟩ := hok.1.2 k w
      refine Or.inl ?_
      by_cases c : hP A k = pl
      · have a1 := addWorst8 (s1 := u1_below (J ((mkRat (M : Int) 2).den : Int)) (u1_above (J (mkRat (M : Int) 2).num) s1)) hok h w hM rfl rfl
        have d2 := (dbl_in hok (W := W) w).2
        refine ⟨hN A - (k + 1), (nI (k + 1), J (mkRat ((if dbl A (vU A 2 W) (vD A 2 W) k ≤ M then M else dbl A (vU A 2 W) (vD A 2 W) k : Nat) : Int) 2).num, J ((mkRat ((if dbl A (vU A 2 W) (vD A 2 W) k ≤ M then M else dbl A (vU A 2 W) (vD A 2 W) k : Nat) : Int) 2).den : Int)), ?_, by omega, k + 1, _, by omega, rfl, rfl, by split <;> omega, ?_⟩
        · show m_X8_workChange_l17_2 s s1 2 (nI pl) (nI k) (J (mkRat (M : Int) 2).num) (J ((mkRat (M : Int) 2).den : Int)) = _
          unfold m_X8_workChange_l17_2
          rw [h.1.2.2.2, if_neg (nI_ge w (by omega)), get_in (by omega) (by decide), Option.bind_some, h.1.2.2.1 k w, if_pos (by rw [c]), a1, Option.bind_some, nI_1]
        · have pk : pro A pl (k + 1) k = true := by
            unfold pro
            rw [decide_eq_true c, decide_eq_true (show k < k + 1 by omega)]; simp
          have ps : ∀ i, i ≠ k → pro A pl (k + 1) i = pro A pl k i := fun i e => by
            unfold pro
            rw [show decide (i < k + 1) = decide (i < k) by apply decide_eq_decide.mpr; omega]
          refine ⟨fun i hi hp => ?_, ?_⟩
          · by_cases e : i = k
            · rw [e]; split <;> omega
            · have := hm.1 i hi (by rw [← ps i e]; exact hp)
              split <;> omega
          · by_cases e : dbl A (vU A 2 W) (vD A 2 W) k ≤ M
            · rw [if_pos e]
              refine hm.2.imp id (fun ⟨i, a, b, c'⟩ => ?_)
              by_cases e2 : i = k
              · exact ⟨k, w, pk, by rw [← e2]; exact c'⟩
              · exact ⟨i, a, by rw [ps i e2]; exact b, c'⟩
            · rw [if_neg e]
              exact Or.inr ⟨k, w, pk, rfl⟩
      · refine ⟨hN A - (k + 1), (nI (k + 1), J (mkRat (M : Int) 2).num, J ((mkRat (M : Int) 2).den : Int)), ?_, by omega, k + 1, M, by omega, rfl, rfl, hM, isM_congr hm (fun i hi => ?_)⟩
        · show m_X8_workChange_l17_2 s s1 2 (nI pl) (nI k) (J (mkRat (M : Int) 2).num) (J ((mkRat (M : Int) 2).den : Int)) = _
          unfold m_X8_workChange_l17_2
          rw [h.1.2.2.2, if_neg (nI_ge w (by omega)), get_in (by omega) (by decide), Option.bind_some, h.1.2.2.1 k w, if_neg (fun x => c (nI_inj (by omega) (by omega) x)), nI_1]
        · unfold pro
          by_cases e : i = k
          · rw [e, decide_eq_false c]; simp
          · rw [show decide (i < k + 1) = decide (i < k) by apply decide_eq_decide.mpr; omega]
    · refine Or.inr ⟨(J (mkRat (M : Int) 2).num, J ((mkRat (M : Int) 2).den : Int)), ?_, M, rfl, hM, isM_congr hm (fun i hi => ?_)⟩
      · show m_X8_workChange_l17_2 s s1 2 (nI pl) (nI k) (J (mkRat (M : Int) 2).num) (J ((mkRat (M : Int) 2).den : Int)) = _
        unfold m_X8_workChange_l17_2
        rw [h.1.2.2.2, if_pos (nI_le w (by omega))]
      · unfold pro
        rw [decide_eq_true (show i < k by omega), Bool.and_true, decide_eq_false (Nat.not_lt_zero i), Bool.and_false, Bool.or_false]
        by_cases e : hP A i < pl
        · rw [decide_eq_true e, decide_eq_true (show hP A i < pl + 1 by omega)]; rfl
        · rw [decide_eq_false e, Bool.false_or]
          apply decide_eq_decide.mpr
          omega
  obtain ⟨r, e, rfl⟩ := lp_invf (f := fun z : Int32 × Int64 × Int64 => m_X8_workChange_l8 s s1 2 z.1 z.2.1 z.2.2) (I := fun d z => ∃ pl M, pl ≤ 10 ∧ d = 10 - pl ∧ z = (nI pl, J (mkRat ((M : Nat) : Int) 2).num, J ((mkRat (M : Int) 2).den : Int)) ∧ M ≤ 236 ∧ isM A (vU A 2 W) (vD A 2 W) (pro A pl 0) M) (Q := fun r => r = (J (mkRat (mxd A (vU A 2 W) (vD A 2 W) (hN A) : Int) 2).num, J ((mkRat (mxd A (vU A 2 W) (vD A 2 W) (hN A) : Int) 2).den : Int))) (d := 10) (s := ((0 : Int32), J 0, J 1)) (by
    rintro d z ⟨pl, M, hpl, hd, rfl, hM, hm⟩
    rcases Nat.lt_or_ge pl 10 with w | w
    · obtain ⟨r, r1, M', r2, r3, r4⟩ := inner pl w M hM hm
      refine Or.inl ⟨10 - (pl + 1), (nI (pl + 1), r.1, r.2), ?_, by omega, pl + 1, M', by omega, rfl, by rw [r2], r3, r4⟩
      show m_X8_workChange_l8 s s1 2 (nI pl) (J (mkRat (M : Int) 2).num) (J ((mkRat (M : Int) 2).den : Int)) = _
      unfold m_X8_workChange_l8
      rw [if_neg (by rw [i_lt, nI_toInt (by omega), show (9 : Int32).toInt = 9 from rfl]; omega), r1, Option.bind_some, nI_1]
    · refine Or.inr ⟨(J (mkRat (M : Int) 2).num, J ((mkRat (M : Int) 2).den : Int)), ?_, ?_⟩
      · show m_X8_workChange_l8 s s1 2 (nI pl) (J (mkRat (M : Int) 2).num) (J ((mkRat (M : Int) 2).den : Int)) = _
        unfold m_X8_workChange_l8
        rw [if_pos (by rw [i_lt, nI_toInt (by omega), show (9 : Int32).toInt = 9 from rfl]; omega)]
      · have : M = mxd A (vU A 2 W) (vD A 2 W) (hN A) := isM_eq (isM_congr hm (fun i hi => by
          obtain ⟨_, _, _, _, pb⟩ := hok.1.2 i hi
          unfold pro
          rw [decide_eq_true (show hP A i < pl by omega)]
          rfl)) (mxd_isM A _ _)
        rw [this]) ⟨0, 0, by omega, rfl, rfl, by omega, ⟨fun i hi hp => absurd hp (by
          unfold pro
          rw [decide_eq_false (Nat.not_lt_zero _), decide_eq_false (Nat.not_lt_zero i), Bool.and_false]
          decide), Or.inl rfl⟩⟩ (by decide)
  have m0 : m_X1_make s1 0 1 = some (J 0, J 1) := by
    have := make9 s1 (x := 0) (d := 1) rng0 (by decide) (rng_nat (by decide))
    exact this
  unfold m_X8_workChange
  rw [m0, Option.bind_some, e, Option.bind_some]
theorem changes9 {s : T8} {A : Sh} (hok : okS A) {l W : Nat} (hl : l < 3) (h : V9 s A (vU A l W) (vD A l W)) (s1 : T1) : m_X8_workChange s s1 (nI l) = some (J (chQ A l W).num, J ((chQ A l W).den : Int)) := by
  unfold chQ
  by_cases c : l = 2
  · subst c
    rw [if_pos rfl]
    exact workWorst8 hok h s1
  · rw [if_neg c]
    exact workChange8 hok (by omega) h s1
