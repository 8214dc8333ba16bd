/-! CHANGE in THE LINE: the class adds up, place by place -/
theorem nat_rat {a e b : Nat} (hb : 0 < b) (h : a ≤ e * b) : (0 : Rat) ≤ mkRat (a : Int) b ∧ mkRat (a : Int) b ≤ ((e : Nat) : Rat) := by
  obtain ⟨m1, m2, m3, m4, m5⟩ := red_nat a hb
  refine ⟨Rat.num_nonneg.mp (by rw [m1]; exact Int.natCast_nonneg _), (Rat.le_iff _ _).mpr ?_⟩
  rw [Rat.den_natCast, Rat.num_natCast, m1, m2]
  have : a / Nat.gcd a b ≤ e * (b / Nat.gcd a b) := by
    refine Nat.le_of_mul_le_mul_right (c := b) ?_ hb
    rw [m5]
    have := Nat.mul_le_mul_right (b / Nat.gcd a b) h
    rw [Nat.mul_right_comm] at this
    exact this
  rw [← Int.natCast_mul, ← Int.natCast_mul, Nat.mul_one]
  exact Int.ofNat_le.mpr this
theorem sQ_le {f : Nat → Rat} {P : Nat → Bool} {e : Nat} : ∀ {n : Nat}, (∀ i, i < n → 0 ≤ f i ∧ f i ≤ ((e : Nat) : Rat)) → 0 ≤ sQ f P n ∧ sQ f P n ≤ ((e * n : Nat) : Rat) := by
  intro n
  induction n with
  | zero => intro _; exact ⟨Rat.le_refl, Rat.le_refl⟩
  | succ n ih =>
    intro h
    obtain ⟨a, b⟩ := ih (fun i hi => h i (by omega))
    obtain ⟨c, d⟩ := h n (by omega)
    have e0 : (0 : Rat) ≤ ((e : Nat) : Rat) := Rat.le_trans c d
    rw [sQ, Nat.mul_succ, Rat.natCast_add]
    split
    · exact ⟨Rat.add_nonneg a c, Rat.le_trans (Rat.add_le_add_right.mpr b) (Rat.add_le_add_left.mpr d)⟩
    · rw [Rat.add_zero]
      refine ⟨a, Rat.le_trans b ?_⟩
      have := (Rat.add_le_add_left (c := ((e * n : Nat) : Rat))).mpr e0
      rw [Rat.add_zero] at this
      exact this
theorem BD_of {q : Rat} {K c : Nat} (h : q.den ∣ K) (h1 : 0 ≤ q) (h2 : q ≤ ((c : Nat) : Rat)) : BD K c q := by
  refine ⟨h, Rat.num_nonneg.mpr h1, ?_⟩
  have := (Rat.le_iff _ _).mp h2
  rw [Rat.den_natCast, Rat.num_natCast, Int.natCast_one, Int.mul_one] at this
  exact this
/-- by how much VALUE and MARK differ, above the line -/
def aL (A : Sh) (l p : Nat) : Nat := ((lvQ A l p).num - ((mkA A p * (lvQ A l p).den : Nat) : Int)).natAbs
theorem lv_diff {A : Sh} (hok : okS A) (l : Nat) {p : Nat} (hp : p < hN A) : ∃ x y : Nat, lvN A l p - ((mkA A p * lvD A l p : Nat) : Int) = (x : Int) - (y : Int) ∧ x ≤ 118 * lvD A l p ∧ y ≤ 118 * lvD A l p := by
  obtain ⟨b1, b2, b3⟩ := blk_in hok l hp
  obtain ⟨a1, a2, a3⟩ := nu_in hok l b2 b1
  obtain ⟨p1, p2⟩ := plc_in hp
  obtain ⟨c1, c2, c3⟩ := nu_in hok l p2 p1
  have m := mkA_le hok hp
  unfold lvN lvD
  by_cases t : hT A = 2
  · rw [if_pos t, if_pos t]
    refine ⟨nuU A l (blk A l p) * nuD A l (plc A p), nuU A l (plc A p) * nuD A l (blk A l p), ?_, ?_, ?_⟩
    · unfold mnN mnD
      simp only [Int.natCast_mul, Int.natCast_add, Int.add_mul]
      rw [Int.mul_assoc]
      omega
    · unfold mnD
      rw [← Nat.mul_assoc]
      exact Nat.mul_le_mul_right _ a3
    · unfold mnD
      rw [Nat.mul_comm (nuD A l (blk A l p)), ← Nat.mul_assoc]
      exact Nat.mul_le_mul_right _ c3
  · rw [if_neg t, if_neg t]
    exact ⟨nuU A l (blk A l p), mkA A p * nuD A l (blk A l p), rfl, a3, Nat.mul_le_mul_right _ m⟩
theorem num_den (N : Int) {D : Nat} (hD : 0 < D) : (mkRat N D).num * (D : Int) = N * ((mkRat N D).den : Int) := by
  have h := (Rat.mkRat_eq_iff (d₁ := (mkRat N D).den) (d₂ := D) (n₁ := (mkRat N D).num) (n₂ := N) (mkRat N D).den_nz (by omega)).mp (Rat.mkRat_self _)
  exact h
theorem aL_le {A : Sh} (hok : okS A) (l : Nat) {p : Nat} (hp : p < hN A) : aL A l p ≤ 118 * (lvQ A l p).den := by
  obtain ⟨d0, d1, d2, d3⟩ := lv_in hok l hp
  obtain ⟨x, y, e, hx, hy⟩ := lv_diff hok l hp
  have nd := num_den (lvN A l p) d0
  have key : ((lvQ A l p).num - ((mkA A p * (lvQ A l p).den : Nat) : Int)) * (lvD A l p : Int) = ((x : Int) - (y : Int)) * ((lvQ A l p).den : Int) := by
    rw [← e, Int.sub_mul, Int.sub_mul]
    unfold lvQ
    rw [nd]
    congr 1
    rw [← Int.natCast_mul, ← Int.natCast_mul, Nat.mul_right_comm]
  have k2 := congrArg Int.natAbs key
  rw [Int.natAbs_mul, Int.natAbs_mul, Int.natAbs_natCast, Int.natAbs_natCast] at k2
  have xy : ((x : Int) - (y : Int)).natAbs ≤ 118 * lvD A l p := by omega
  refine Nat.le_of_mul_le_mul_right (c := lvD A l p) ?_ d0
  unfold aL
  rw [k2]
  have := Nat.mul_le_mul_right (lvQ A l p).den xy
  rw [Nat.mul_right_comm] at this
  exact this
def tLN (A : Sh) (l p : Nat) : Nat := if l = 0 then wtA A p * aL A l p * aL A l p else wtA A p * aL A l p
def tLD (A : Sh) (l p : Nat) : Nat := if l = 0 then (lvQ A l p).den * (lvQ A l p).den else (lvQ A l p).den
def tL (A : Sh) (l p : Nat) : Rat := mkRat (tLN A l p : Int) (tLD A l p)
theorem tLD_pos (A : Sh) (l p : Nat) : 0 < tLD A l p := by
  have := (lvQ A l p).den_pos
  unfold tLD
  split
  · exact Nat.mul_pos this this
  · exact this
theorem tLN_le {A : Sh} (hok : okS A) (l : Nat) {p : Nat} (hp : p < hN A) : tLN A l p ≤ 250632 * tLD A l p := by
  have a := aL_le hok l hp
  have w := (wtA_in hok hp).2
  have wa : wtA A p * aL A l p ≤ 18 * (118 * (lvQ A l p).den) := Nat.mul_le_mul w a
  unfold tLN tLD
  split
  · have := Nat.mul_le_mul wa a
    have e : 18 * (118 * (lvQ A l p).den) * (118 * (lvQ A l p).den) = 250632 * ((lvQ A l p).den * (lvQ A l p).den) := by
      generalize (lvQ A l p).den = d
      have e1 : 18 * (118 * d) * (118 * d) = (18 * 118 * 118) * (d * d) := by ac_rfl
      rw [e1]
    omega
  · omega
theorem tL_in {A : Sh} (hok : okS A) (l : Nat) {p : Nat} (hp : p < hN A) : 0 ≤ tL A l p ∧ tL A l p ≤ ((250632 : Nat) : Rat) := nat_rat (tLD_pos A l p) (tLN_le hok l hp)
theorem addChangeL {s : T8} {s1 : T1} {A : Sh} (hok : okS A) {l p K : Nat} (hl : l < 2) (h : VL s A l) (hp : p < hN A) {q : Rat} (h1 : p1_above s1 = J q.num) (h2 : p1_below s1 = J (q.den : Int)) (hK : 0 < K) (hb : BD K 1754424 q) (hd : tLD A l p ∣ K) (hc : 2005057 * K < 4611686018427387904) : m_X8_addChange s s1 (nI l) (nI p) = some (J (q + tL A l p).num, J ((q + tL A l p).den : Int)) := by
  have n7 := hok.1.1
  obtain ⟨b1, b2⟩ := lvQ_bd hok l hp
  obtain ⟨v1, v2⟩ := h.2 p hp
  have w := wtA_in hok hp
  have m := mkA_le hok hp
  have md : mkA A p * (lvQ A l p).den ≤ 118 * 15876 := Nat.mul_le_mul m b2
  obtain ⟨f0, f1, f2, f3, f4⟩ := fadd hK hb (tLD_pos A l p) hd (tLN_le hok l hp) hc
  have ad := add9 (s := s1) h1 h2 (tLD_pos A l p) f1 f2 f3 f4
  have df : (some (if (0 : Int64) < (zI (lvQ A l p).num).toInt64 - (nI (mkA A p)).toInt64 * (nI (lvQ A l p).den).toInt64 then (zI (lvQ A l p).num).toInt64 - (nI (mkA A p)).toInt64 * (nI (lvQ A l p).den).toInt64 else -((zI (lvQ A l p).num).toInt64 - (nI (mkA A p)).toInt64 * (nI (lvQ A l p).den).toInt64)) : Option Int64) = some (J (aL A l p : Int)) := by
    rw [zI_64 (by omega) (by omega), nI_64 (k := mkA A p) (by omega), nI_64 (k := (lvQ A l p).den) (by omega), J_mul, J_sub, ← Int.natCast_mul]
    exact abs_J ⟨by omega, by omega⟩
  unfold m_X8_addChange
  rw [get_in (by omega) (by decide), Option.bind_some, get_in (by omega) (by decide), Option.bind_some, get_in (by omega) (by decide), Option.bind_some, v1, v2, h.1.1 p hp, df, Option.bind_some, get_in (by omega) (by decide), Option.bind_some, Option.bind_some, h.1.2.1 p hp, nI_64 (k := wtA A p) (by omega), nI_64 (k := (lvQ A l p).den) (by omega), J_mul, J_mul, J_mul, ← Int.natCast_mul, ← Int.natCast_mul, ← Int.natCast_mul]
  rcases (show l = 0 ∨ l = 1 by omega) with rfl | rfl
  · rw [if_pos (show nI 0 = 0 from rfl)]
    have ad' : m_X1_add s1 (J ((wtA A p * aL A 0 p * aL A 0 p : Nat) : Int)) (J (((lvQ A 0 p).den * (lvQ A 0 p).den : Nat) : Int)) = _ := ad
    rw [ad', Option.bind_some]
    rfl
  · rw [if_neg (show ¬ nI 1 = 0 by decide), if_pos (show nI 1 = 1 from rfl)]
    have ad' : m_X1_add s1 (J ((wtA A p * aL A 1 p : Nat) : Int)) (J ((lvQ A 1 p).den : Int)) = _ := ad
    rw [ad', Option.bind_some]
    rfl
def chL (A : Sh) (l : Nat) : Rat := sQ (tL A l) (fun _ => true) (hN A)
/-- what must hold for the class's sum: before each paper a small number over which all lies -/
def supL (A : Sh) (l : Nat) : Prop := ∀ k, k < hN A → ∃ K, 0 < K ∧ 2005057 * K < 4611686018427387904 ∧ (sQ (tL A l) (pro A (hP A k) k) (hN A)).den ∣ K ∧ tLD A l k ∣ K
theorem workChangeL {s : T8} {A : Sh} (hok : okS A) {l : Nat} (hl : l < 2) (h : VL s A l) (sup : supL A l) (s1 : T1) : m_X8_workChange s s1 (nI l) = some (J (chL A l).num, J ((chL A l).den : Int)) := by
  have n7 := hok.1.1
  have ibd : ∀ P, 0 ≤ sQ (tL A l) P (hN A) ∧ sQ (tL A l) P (hN A) ≤ ((1754424 : Nat) : Rat) := fun P => by
    obtain ⟨a, b⟩ := sQ_le (P := P) (n := hN A) (fun i hi => tL_in hok l hi)
    refine ⟨a, Rat.le_trans b (Rat.natCast_le_natCast.mpr ?_)⟩
    omega
  have inner : ∀ pl, pl < 10 → ∀ q : Rat, q = sQ (tL A l) (pro A pl 0) (hN A) → ∃ r, lp (fun z : Int32 × Int64 × Int64 => m_X8_workChange_l17_2 s s1 (nI l) (nI pl) z.1 z.2.1 z.2.2) fu ((0 : Int32), J q.num, J (q.den : Int)) = some r ∧ ∃ q' : Rat, r = (J q'.num, J (q'.den : Int)) ∧ q' = sQ (tL A l) (pro A (pl + 1) 0) (hN A) := by
    intro pl hpl q hq
    refine lp_invf (f := fun z : Int32 × Int64 × Int64 => m_X8_workChange_l17_2 s s1 (nI l) (nI pl) z.1 z.2.1 z.2.2) (I := fun d z => ∃ k q, k ≤ hN A ∧ d = hN A - k ∧ z = (nI k, J (q : Rat).num, J (q.den : Int)) ∧ q = sQ (tL A l) (pro A pl k) (hN A)) (Q := _) (d := hN A) ?_ ⟨0, q, Nat.zero_le _, rfl, rfl, hq⟩ (by omega)
    rintro d z ⟨k, q, hk, hd, rfl, hq⟩
    rcases Nat.lt_or_ge k (hN A) with w | w
    · obtain ⟨_, _, _, _, pb⟩ := hok.1.2 k w
      refine Or.inl ?_
      by_cases c : hP A k = pl
      · obtain ⟨K, k0, k1, k2, k3⟩ := sup k w
        rw [c, ← hq] at k2
        have bd : BD K 1754424 q := BD_of k2 (by rw [hq]; exact (ibd _).1) (by rw [hq]; exact (ibd _).2)
        have a1 := addChangeL (s1 := u1_below (J (q.den : Int)) (u1_above (J q.num) s1)) hok hl h w rfl rfl k0 bd k3 k1
        refine ⟨hN A - (k + 1), (nI (k + 1), J (q + tL A l k).num, J ((q + tL A l k).den : Int)), ?_, by omega, k + 1, _, by omega, rfl, rfl, ?_⟩
        · show m_X8_workChange_l17_2 s s1 (nI l) (nI pl) (nI k) (J q.num) (J (q.den : Int)) = _
          unfold m_X8_workChange_l17_2
          rw [h.1.2.2.2, if_neg (nI_ge w (by omega)), get_in (by omega) (by decide), Option.bind_some, h.1.2.2.1 k w, if_pos (by rw [c]), a1, Option.bind_some, nI_1]
        · rw [hq, ← sQ_add w (by unfold pro; rw [decide_eq_false (by omega), decide_eq_false (show ¬ k < k by omega)]; simp)]
          refine sQ_congr (fun i hi => ?_)
          unfold pro
          by_cases e : i = k
          · rw [e, decide_eq_true c, decide_eq_true (show k < k + 1 by omega)]; simp
          · rw [show decide (i < k + 1) = decide (i < k) by apply decide_eq_decide.mpr; omega, decide_eq_false e, Bool.or_false]
      · refine ⟨hN A - (k + 1), (nI (k + 1), J q.num, J (q.den : Int)), ?_, by omega, k + 1, q, by omega, rfl, rfl, ?_⟩
        · show m_X8_workChange_l17_2 s s1 (nI l) (nI pl) (nI k) (J q.num) (J (q.den : Int)) = _
          unfold m_X8_workChange_l17_2
          rw [h.1.2.2.2, if_neg (nI_ge w (by omega)), get_in (by omega) (by decide), Option.bind_some, h.1.2.2.1 k w, if_neg (fun x => c (nI_inj (by omega) (by omega) x)), nI_1]
        · rw [hq]
          refine sQ_congr (fun i hi => ?_)
          unfold pro
          by_cases e : i = k
          · rw [e, decide_eq_false c]; simp
          · rw [show decide (i < k + 1) = decide (i < k) by apply decide_eq_decide.mpr; omega]
    · refine Or.inr ⟨(J q.num, J (q.den : Int)), ?_, q, rfl, ?_⟩
      · show m_X8_workChange_l17_2 s s1 (nI l) (nI pl) (nI k) (J q.num) (J (q.den : Int)) = _
        unfold m_X8_workChange_l17_2
        rw [h.1.2.2.2, if_pos (nI_le w (by omega))]
      · rw [hq]
        refine sQ_congr (fun i hi => ?_)
        unfold pro
        rw [decide_eq_true (show i < k by omega), Bool.and_true, decide_eq_false (Nat.not_lt_zero i), Bool.and_false, Bool.or_false]
        by_cases e : hP A i < pl
        · rw [decide_eq_true e, decide_eq_true (show hP A i < pl + 1 by omega)]; rfl
        · rw [decide_eq_false e, Bool.false_or]
          apply decide_eq_decide.mpr
          omega
  obtain ⟨r, e, rfl⟩ := lp_invf (f := fun z : Int32 × Int64 × Int64 => m_X8_workChange_l8 s s1 (nI l) z.1 z.2.1 z.2.2) (I := fun d z => ∃ pl q, pl ≤ 10 ∧ d = 10 - pl ∧ z = (nI pl, J (q : Rat).num, J (q.den : Int)) ∧ q = sQ (tL A l) (pro A pl 0) (hN A)) (Q := fun r => r = (J (chL A l).num, J ((chL A l).den : Int))) (d := 10) (s := ((0 : Int32), J 0, J 1)) (by
    rintro d z ⟨pl, q, hpl, hd, rfl, hq⟩
    rcases Nat.lt_or_ge pl 10 with w | w
    · obtain ⟨r, r1, q', r2, r3⟩ := inner pl w q hq
      refine Or.inl ⟨10 - (pl + 1), (nI (pl + 1), r.1, r.2), ?_, by omega, pl + 1, q', by omega, rfl, by rw [r2], r3⟩
      show m_X8_workChange_l8 s s1 (nI l) (nI pl) (J q.num) (J (q.den : Int)) = _
      unfold m_X8_workChange_l8
      rw [if_neg (by rw [i_lt, nI_toInt (by omega), show (9 : Int32).toInt = 9 from rfl]; omega), r1, Option.bind_some, nI_1]
    · refine Or.inr ⟨(J q.num, J (q.den : Int)), ?_, ?_⟩
      · show m_X8_workChange_l8 s s1 (nI l) (nI pl) (J q.num) (J (q.den : Int)) = _
        unfold m_X8_workChange_l8
        rw [if_pos (by rw [i_lt, nI_toInt (by omega), show (9 : Int32).toInt = 9 from rfl]; omega)]
      · have : q = chL A l := by
          rw [hq]
          refine sQ_congr (fun i hi => ?_)
          obtain ⟨_, _, _, _, pb⟩ := hok.1.2 i hi
          unfold pro
          rw [decide_eq_true (show hP A i < pl by omega)]
          rfl
        rw [this]) ⟨0, 0, by omega, rfl, rfl, by
          rw [sQ_congr (Q := fun _ => false) (fun i hi => by unfold pro; rw [decide_eq_false (Nat.not_lt_zero _), decide_eq_false (Nat.not_lt_zero i), Bool.and_false]; rfl), sQ_none]⟩ (by decide)
  have m0 : m_X1_make s1 0 1 = some (J 0, J 1) := by
    have := make9 s1 (x := 0) (d := 1) rng0 (by decide) (rng_nat (by decide))
    exact this
  unfold m_X8_workChange
  rw [m0, Option.bind_some, e, Option.bind_some]
