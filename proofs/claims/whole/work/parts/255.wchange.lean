/-! CHANGE by SQUARE, by ABSOLUTE: both add up the same -/
theorem BD_mono {K c c' : Nat} {q : Rat} (h : BD K c q) (hc : c ≤ c') : BD K c' q := by
  refine ⟨h.1, h.2.1, Int.le_trans h.2.2 ?_⟩
  have : ((c * q.den : Nat) : Int) ≤ ((c' * q.den : Nat) : Int) := Int.ofNat_le.mpr (Nat.mul_le_mul_right _ hc)
  rw [Int.natCast_mul, Int.natCast_mul] at this
  exact this
theorem BD_zero (K : Nat) : BD K 0 0 := ⟨Nat.one_dvd K, Int.le_refl 0, by decide⟩
theorem diff_J {A : Sh} (hok : okS A) {l W p : Nat} (hl : l < 3) (hp : p < hN A) : (some (if (0 : Int64) < (nI (vU A l W p)).toInt64 - (nI (mkA A p)).toInt64 * (nI (vD A l W p)).toInt64 then (nI (vU A l W p)).toInt64 - (nI (mkA A p)).toInt64 * (nI (vD A l W p)).toInt64 else -((nI (vU A l W p)).toInt64 - (nI (mkA A p)).toInt64 * (nI (vD A l W p)).toInt64)) : Option Int64) = some (J (byN A (vU A l W) (vD A l W) p : Int)) := by
  have b := val_bd hok hl (W := W) hp
  have m := mkA_le hok hp
  have md : mkA A p * vD A l W p ≤ 118 * 126 := Nat.mul_le_mul m b.2.1
  rw [nI_64 (by omega), nI_64 (by omega), nI_64 (by omega), J_mul, J_sub, ← Int.natCast_mul]
  exact abs_J ⟨by omega, by omega⟩
theorem tD_pos {A : Sh} (hok : okS A) {l W p : Nat} (hl : l < 3) (hp : p < hN A) : 0 < tD l (vD A l W) p := by
  have b := (val_bd hok hl (W := W) hp).1
  unfold tD
  split
  · exact Nat.mul_pos b b
  · exact b
theorem addChange8 {s : T8} {s1 : T1} {A : Sh} (hok : okS A) {l W p K c : Nat} (hl : l < 2) (h : V9 s A (vU A l W) (vD A l W)) (hp : p < hN A) {q : Rat} (h1 : p1_above s1 = J q.num) (h2 : p1_below s1 = J (q.den : Int)) (hK : 0 < K) (hb : BD K c q) (hd : tD l (vD A l W) p ∣ K) (hc : (c + 250632 + 1) * K < 4611686018427387904) : m_X8_addChange s s1 (nI l) (nI p) = some (J (q + tQ A l (vU A l W) (vD A l W) p).num, J ((q + tQ A l (vU A l W) (vD A l W) p).den : Int)) ∧ BD K (c + 250632) (q + tQ A l (vU A l W) (vD A l W) p) := by
  have n7 := hok.1.1
  have b := val_bd hok (show l < 3 by omega) (W := W) hp
  have w := wtA_in hok hp
  obtain ⟨f0, f1, f2, f3, f4⟩ := fadd hK hb (tD_pos hok (show l < 3 by omega) hp) hd (tN_le hok hp b.2.2.1) hc
  refine ⟨?_, f0⟩
  have ad := add9 (s := s1) h1 h2 (tD_pos hok (show l < 3 by omega) hp) f1 f2 f3 f4
  unfold m_X8_addChange
  rw [get_in (by omega) (by decide), Option.bind_some, get_in (by omega) (by decide), Option.bind_some, get_in (by omega) (by decide), Option.bind_some, h.2.1 p hp, h.2.2 p hp, h.1.1 p hp, diff_J hok (by omega) hp, Option.bind_some, get_in (by omega) (by decide), Option.bind_some, Option.bind_some, h.1.2.1 p hp, nI_64 (k := wtA A p) (by omega), nI_64 (k := vD A l W p) (by omega), J_mul, J_mul, J_mul, ← Int.natCast_mul, ← Int.natCast_mul, ← Int.natCast_mul]
  rcases (show l = 0 ∨ l = 1 by omega) with rfl | rfl
  · rw [if_pos (show nI 0 = 0 from rfl)]
    have ad' : m_X1_add s1 (J ((wtA A p * byN A (vU A 0 W) (vD A 0 W) p * byN A (vU A 0 W) (vD A 0 W) p : Nat) : Int)) (J ((vD A 0 W p * vD A 0 W p : Nat) : Int)) = _ := ad
    rw [ad', Option.bind_some]
    rfl
  · rw [if_neg (show ¬ nI 1 = 0 by decide), if_pos (show nI 1 = 1 from rfl)]
    have ad' : m_X1_add s1 (J ((wtA A p * byN A (vU A 1 W) (vD A 1 W) p : Nat) : Int)) (J ((vD A 1 W p : Nat) : Int)) = _ := ad
    rw [ad', Option.bind_some]
    rfl
/-- those of the places ahead, and of this place the first k -/
def pro (A : Sh) (pl k i : Nat) : Bool := decide (hP A i < pl) || (decide (hP A i = pl) && decide (i < k))
theorem workChange8 {s : T8} {A : Sh} (hok : okS A) {l W : Nat} (hl : l < 2) (h : V9 s A (vU A l W) (vD A l W)) (s1 : T1) : m_X8_workChange s s1 (nI l) = some (J (chg A l (vU A l W) (vD A l W)).num, J ((chg A l (vU A l W) (vD A l W)).den : Int)) := by
  have n7 := hok.1.1
  obtain ⟨K, k0, k1, k2, _⟩ := chg_K hok (W := W) hl
  have KK : 0 < K * K := Nat.mul_pos k0 k0
  have KB : K * K ≤ 279936 * 279936 := Nat.mul_le_mul k1 k1
  have big : ∀ c, c ≤ 250632 * 70 → (c + 250632 + 1) * (K * K) < 4611686018427387904 := fun c hc => by
    have := Nat.mul_le_mul (show c + 250632 + 1 ≤ 250632 * 71 + 1 by omega) KB
    omega
  have inner : ∀ pl, pl < 10 → ∀ q : Rat, q = sQ (tQ A l (vU A l W) (vD A l W)) (pro A pl 0) (hN A) → BD (K * K) (250632 * (7 * pl)) q → ∃ r, lp (fun z : Int32 × Int64 × Int64 => m_X8_workChange_l17_2 s s1 (nI l) (nI pl) z.1 z.2.1 z.2.2) fu ((0 : Int32), J q.num, J (q.den : Int)) = some r ∧ ∃ q' : Rat, r = (J q'.num, J (q'.den : Int)) ∧ q' = sQ (tQ A l (vU A l W) (vD A l W)) (pro A (pl + 1) 0) (hN A) ∧ BD (K * K) (250632 * (7 * (pl + 1))) q' := by
    intro pl hpl q hq hb
    refine lp_invf (f := fun z : Int32 × Int64 × Int64 => m_X8_workChange_l17_2 s s1 (nI l) (nI pl) z.1 z.2.1 z.2.2) (I := fun d z => ∃ k q, k ≤ hN A ∧ d = hN A - k ∧ z = (nI k, J (q : Rat).num, J (q.den : Int)) ∧ q = sQ (tQ A l (vU A l W) (vD A l W)) (pro A pl k) (hN A) ∧ BD (K * K) (250632 * (7 * pl + k)) q) (Q := _) (d := hN A) ?_ ⟨0, q, Nat.zero_le _, rfl, rfl, hq, hb⟩ (by omega)
    rintro d z ⟨k, q, hk, hd, rfl, hq, hb⟩
    rcases Nat.lt_or_ge k (hN A) with w | w
    · obtain ⟨_, _, _, _, pb⟩ := hok.1.2 k w
      refine Or.inl ?_
      by_cases c : hP A k = pl
      · obtain ⟨a1, a2⟩ := addChange8 (s1 := u1_below (J (q.den : Int)) (u1_above (J q.num) s1)) hok hl h w rfl rfl KK hb (k2 k w) (big _ (by omega))
        refine ⟨hN A - (k + 1), (nI (k + 1), J (q + tQ A l (vU A l W) (vD A l W) k).num, J ((q + tQ A l (vU A l W) (vD A l W) k).den : Int)), ?_, by omega, k + 1, _, by omega, rfl, rfl, ?_, a2⟩
        · show m_X8_workChange_l17_2 s s1 (nI l) (nI pl) (nI k) (J q.num) (J (q.den : Int)) = _
          unfold m_X8_workChange_l17_2
          rw [h.1.2.2.2, if_neg (nI_ge w (by omega)), get_in (by omega) (by decide), Option.bind_some, h.1.2.2.1 k w, if_pos (by rw [c]), a1, Option.bind_some, nI_1]
        · rw [hq, ← sQ_add w (by unfold pro; rw [decide_eq_false (by omega), decide_eq_false (show ¬ k < k by omega)]; simp)]
          refine sQ_congr (fun i hi => ?_)
          unfold pro
          by_cases e : i = k
          · rw [e, decide_eq_true c, decide_eq_true (show k < k + 1 by omega)]; simp
          · rw [show decide (i < k + 1) = decide (i < k) by apply decide_eq_decide.mpr; omega, decide_eq_false e, Bool.or_false]
      · refine ⟨hN A - (k + 1), (nI (k + 1), J q.num, J (q.den : Int)), ?_, by omega, k + 1, q, by omega, rfl, rfl, ?_, BD_mono hb (by omega)⟩
        · show m_X8_workChange_l17_2 s s1 (nI l) (nI pl) (nI k) (J q.num) (J (q.den : Int)) = _
          unfold m_X8_workChange_l17_2
          rw [h.1.2.2.2, if_neg (nI_ge w (by omega)), get_in (by omega) (by decide), Option.bind_some, h.1.2.2.1 k w, if_neg (fun x => c (nI_inj (by omega) (by omega) x)), nI_1]
        · rw [hq]
          refine sQ_congr (fun i hi => ?_)
          unfold pro
          by_cases e : i = k
          · rw [e, decide_eq_false c]; simp
          · rw [show decide (i < k + 1) = decide (i < k) by apply decide_eq_decide.mpr; omega]
    · refine Or.inr ⟨(J q.num, J (q.den : Int)), ?_, q, rfl, ?_, BD_mono hb (by omega)⟩
      · show m_X8_workChange_l17_2 s s1 (nI l) (nI pl) (nI k) (J q.num) (J (q.den : Int)) = _
        unfold m_X8_workChange_l17_2
        rw [h.1.2.2.2, if_pos (nI_le w (by omega))]
      · rw [hq]
        refine sQ_congr (fun i hi => ?_)
        unfold pro
        rw [decide_eq_true (show i < k by omega), Bool.and_true, decide_eq_false (Nat.not_lt_zero i), Bool.and_false, Bool.or_false]
        by_cases e : hP A i < pl
        · rw [decide_eq_true e, decide_eq_true (show hP A i < pl + 1 by omega)]; rfl
        · rw [decide_eq_false e, Bool.false_or]
          apply decide_eq_decide.mpr
          omega
  obtain ⟨r, e, rfl⟩ := lp_invf (f := fun z : Int32 × Int64 × Int64 => m_X8_workChange_l8 s s1 (nI l) z.1 z.2.1 z.2.2) (I := fun d z => ∃ pl q, pl ≤ 10 ∧ d = 10 - pl ∧ z = (nI pl, J (q : Rat).num, J (q.den : Int)) ∧ q = sQ (tQ A l (vU A l W) (vD A l W)) (pro A pl 0) (hN A) ∧ BD (K * K) (250632 * (7 * pl)) q) (Q := fun r => r = (J (chg A l (vU A l W) (vD A l W)).num, J ((chg A l (vU A l W) (vD A l W)).den : Int))) (d := 10) (s := ((0 : Int32), J 0, J 1)) (by
    rintro d z ⟨pl, q, hpl, hd, rfl, hq, hb⟩
    rcases Nat.lt_or_ge pl 10 with w | w
    · obtain ⟨r, r1, q', r2, r3, r4⟩ := inner pl w q hq hb
      refine Or.inl ⟨10 - (pl + 1), (nI (pl + 1), r.1, r.2), ?_, by omega, pl + 1, q', by omega, rfl, by rw [r2], r3, r4⟩
      show m_X8_workChange_l8 s s1 (nI l) (nI pl) (J q.num) (J (q.den : Int)) = _
      unfold m_X8_workChange_l8
      rw [if_neg (by rw [i_lt, nI_toInt (by omega), show (9 : Int32).toInt = 9 from rfl]; omega), r1, Option.bind_some, nI_1]
    · refine Or.inr ⟨(J q.num, J (q.den : Int)), ?_, ?_⟩
      · show m_X8_workChange_l8 s s1 (nI l) (nI pl) (J q.num) (J (q.den : Int)) = _
        unfold m_X8_workChange_l8
        rw [if_pos (by rw [i_lt, nI_toInt (by omega), show (9 : Int32).toInt = 9 from rfl]; omega)]
      · have : q = chg A l (vU A l W) (vD A l W) := by
          rw [hq]
          refine sQ_congr (fun i hi => ?_)
          obtain ⟨_, _, _, _, pb⟩ := hok.1.2 i hi
          unfold pro
          rw [decide_eq_true (show hP A i < pl by omega)]
          rfl
        rw [this]) ⟨0, 0, by omega, rfl, rfl, by
          rw [sQ_congr (Q := fun _ => false) (fun i hi => by unfold pro; rw [decide_eq_false (Nat.not_lt_zero _), decide_eq_false (Nat.not_lt_zero i), Bool.and_false]; rfl), sQ_none], BD_zero _⟩ (by decide)
  have m0 : m_X1_make s1 0 1 = some (J 0, J 1) := by
    have := make9 s1 (x := 0) (d := 1) rng0 (by decide) (rng_nat (by decide))
    exact this
  unfold m_X8_workChange
  rw [m0, Option.bind_some, e, Option.bind_some]
