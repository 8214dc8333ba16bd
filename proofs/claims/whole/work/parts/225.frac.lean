/-! LONGS AND FRACTIONS: the class's and the reference's are the rationals -/
def J (i : Int) : Int64 := Int64.ofInt i
theorem J_int {i : Int} (h1 : -9223372036854775808 ≤ i) (h2 : i < 9223372036854775808) : (J i).toInt = i := Int64.toInt_ofInt_of_le h1 h2
theorem J_add (a b : Int) : J a + J b = J (a + b) := (Int64.ofInt_add a b).symm
theorem J_sub (a b : Int) : J a - J b = J (a - b) := (Int64.ofInt_sub a b).symm
theorem J_mul (a b : Int) : J a * J b = J (a * b) := (Int64.ofInt_mul a b).symm
theorem J_neg (a : Int) : -J a = J (-a) := (Int64.ofInt_neg a).symm
def rng (i : Int) : Prop := -4611686018427387904 < i ∧ i < 4611686018427387904
theorem J_rng {i : Int} (h : rng i) : (J i).toInt = i := J_int (by have := h.1; omega) (by have := h.2; omega)
theorem J_le {a b : Int} (ha : rng a) (hb : rng b) : J a ≤ J b ↔ a ≤ b := by
  rw [Int64.le_iff_toInt_le, J_rng ha, J_rng hb]
theorem J_lt {a b : Int} (ha : rng a) (hb : rng b) : J a < J b ↔ a < b := by
  rw [Int64.lt_iff_toInt_lt, J_rng ha, J_rng hb]
theorem J_inj {a b : Int} (ha : rng a) (hb : rng b) : J a = J b ↔ a = b := by
  rw [← Int64.toInt_inj, J_rng ha, J_rng hb]
theorem J0 : J 0 = 0 := rfl
theorem rng0 : rng 0 := ⟨by decide, by decide⟩
theorem J_ne0 {a : Int} (ha : rng a) (h : a ≠ 0) : ¬ J a = 0 := by
  rw [← J0, J_inj ha rng0]
  exact h
theorem J_tdiv {a b : Int} (ha : rng a) (hb : rng b) (h : 0 < b) : J a / J b = J (a.tdiv b) := by
  have h1 : (a.tdiv b).natAbs ≤ a.natAbs := by
    rw [Int.natAbs_tdiv]
    exact Nat.div_le_self _ _
  have hr : rng (a.tdiv b) := by
    obtain ⟨q1, q2⟩ := ha
    constructor <;> omega
  rw [← Int64.toInt_inj, Int64.toInt_div_of_ne_right _ _ (fun e => ?_), J_rng ha, J_rng hb, J_rng hr]
  have := congrArg Int64.toInt e
  rw [J_rng hb, show (-1 : Int64).toInt = -1 from rfl] at this
  omega
theorem J_div {a : Int} {g : Nat} (ha : rng a) (hg : 0 < g) (hg2 : rng g) (h : (g : Int) ∣ a) : J a / J g = J (a / g) := by
  rw [J_tdiv ha hg2 (by omega)]
  congr 1
  exact Int.tdiv_eq_ediv_of_dvd h
theorem J_rem {a b : Nat} (ha : rng a) (hb : rng b) (h : 0 < b) : J a - J a / J b * J b = J ((a % b : Nat) : Int) := by
  rw [J_tdiv ha hb (by omega), J_mul, J_sub]
  congr 1
  rw [← Int.ofNat_tdiv, ← Int.natCast_mul, Int.natCast_emod]
  have := Int.mul_ediv_add_emod (a : Int) b
  rw [Int.natCast_mul, Int.natCast_ediv, Int.mul_comm]
  omega
theorem gcd_step (a b : Nat) : Nat.gcd a b = Nat.gcd b (a % b) := by
  rw [Nat.gcd_comm a b, Nat.gcd_rec b a, Nat.gcd_comm]
theorem half_mod {b r : Nat} (h0 : 0 < r) (h : r < b) : 2 * (b % r) < b := by
  have h1 := Nat.mod_lt b h0
  have h2 := Nat.div_add_mod b r
  have h3 : 1 ≤ b / r := (Nat.one_le_div_iff h0).mpr (by omega)
  have h4 : r * 1 ≤ r * (b / r) := Nat.mul_le_mul_left r h3
  omega
theorem p62 {k : Nat} (h : k ≤ 62) : 2 ^ k ≤ 4611686018427387904 := Nat.pow_le_pow_right (n := 2) (by decide) h
theorem gcd9 : ∀ (k a b s fuel : Nat), a < 4611686018427387904 → b < 2 ^ k → k ≤ 62 → s + 2 * k + 1 < 200 → 2 * k + 1 < fuel → lp (fun z : Int64 × Int64 × Int32 => m_X1_commonOf_l31 z.1 z.2.1 z.2.2) fuel (J a, J b, nI s) = some (J (Nat.gcd a b : Nat)) := by
  have go : ∀ a b s : Nat, a < 4611686018427387904 → b < 4611686018427387904 → s < 200 → m_X1_commonOf_l31 (J a) (J b) (nI s) = if b = 0 then some (.inr (J a)) else some (.inl (J b, J ((a % b : Nat) : Int), nI (s + 1))) := by
    intro a b s ha hb hs
    unfold m_X1_commonOf_l31
    rw [if_neg (show ¬ (200 : Int32) ≤ nI s from nI_ge (b := 200) hs (by omega)), nI_1]
    by_cases c : b = 0
    · rw [if_pos c, c, if_pos (show J ((0 : Nat) : Int) = 0 from rfl)]
    · have rb : rng b := ⟨by omega, by omega⟩
      have nz : ¬ J b = 0 := J_ne0 rb (by omega)
      rw [if_neg c, if_neg nz, if_pos nz, J_rem ⟨by omega, by omega⟩ rb (by omega)]
  intro k
  induction k with
  | zero =>
    intro a b s fuel ha hb hk hs hf
    obtain ⟨n, rfl⟩ : ∃ n, fuel = n + 1 := ⟨fuel - 1, by omega⟩
    have : b = 0 := by rw [Nat.pow_zero] at hb; omega
    refine lp_inr ?_
    show m_X1_commonOf_l31 (J a) (J b) (nI s) = _
    rw [go a b s ha (by omega) (by omega), if_pos this, this, Nat.gcd_zero_right]
  | succ k ih =>
    intro a b s fuel ha hb hk hs hf
    have hp := p62 hk
    rw [Nat.pow_succ] at hb hp
    obtain ⟨n, rfl⟩ : ∃ n, fuel = n + 2 := ⟨fuel - 2, by omega⟩
    by_cases c : b = 0
    · refine lp_inr ?_
      show m_X1_commonOf_l31 (J a) (J b) (nI s) = _
      rw [go a b s ha (by omega) (by omega), if_pos c, c, Nat.gcd_zero_right]
    · have hr := Nat.mod_lt a (show 0 < b by omega)
      rw [lp_inl (s' := (J b, J ((a % b : Nat) : Int), nI (s + 1))) (by
        show m_X1_commonOf_l31 (J a) (J b) (nI s) = _
        rw [go a b s ha (by omega) (by omega), if_neg c])]
      by_cases c2 : a % b = 0
      · refine lp_inr ?_
        show m_X1_commonOf_l31 (J b) (J ((a % b : Nat) : Int)) (nI (s + 1)) = _
        rw [go b (a % b) (s + 1) (by omega) (by omega) (by omega), if_pos c2, gcd_step, c2, Nat.gcd_zero_right]
      · rw [lp_inl (s' := (J ((a % b : Nat) : Int), J ((b % (a % b) : Nat) : Int), nI (s + 1 + 1))) (by
          show m_X1_commonOf_l31 (J b) (J ((a % b : Nat) : Int)) (nI (s + 1)) = _
          rw [go b (a % b) (s + 1) (by omega) (by omega) (by omega), if_neg c2])]
        have := half_mod (b := b) (r := a % b) (by omega) hr
        rw [ih (a % b) (b % (a % b)) (s + 1 + 1) n (by omega) (by omega) (by omega) (by omega) (by omega), gcd_step a b, gcd_step b]
theorem gcd10 : ∀ (k a b fuel : Nat), a < 4611686018427387904 → b < 2 ^ k → k ≤ 62 → 2 * k + 1 < fuel → lp (fun z : Int64 × Int64 => m_X10_divisor_l17 z.1 z.2) fuel (J a, J b) = some (J (Nat.gcd a b : Nat)) := by
  have go : ∀ a b : Nat, a < 4611686018427387904 → b < 4611686018427387904 → m_X10_divisor_l17 (J a) (J b) = if b = 0 then some (.inr (J a)) else some (.inl (J b, J ((a % b : Nat) : Int))) := by
    intro a b ha hb
    unfold m_X10_divisor_l17
    by_cases c : b = 0
    · rw [if_pos c, c, if_pos (show J ((0 : Nat) : Int) = 0 from rfl)]
    · have rb : rng b := ⟨by omega, by omega⟩
      have nz : ¬ J b = 0 := J_ne0 rb (by omega)
      rw [if_neg c, if_neg nz, if_pos nz, J_rem ⟨by omega, by omega⟩ rb (by omega)]
  intro k
  induction k with
  | zero =>
    intro a b fuel ha hb hk hf
    obtain ⟨n, rfl⟩ : ∃ n, fuel = n + 1 := ⟨fuel - 1, by omega⟩
    have : b = 0 := by rw [Nat.pow_zero] at hb; omega
    refine lp_inr ?_
    show m_X10_divisor_l17 (J a) (J b) = _
    rw [go a b ha (by omega), if_pos this, this, Nat.gcd_zero_right]
  | succ k ih =>
    intro a b fuel ha hb hk hf
    have hp := p62 hk
    rw [Nat.pow_succ] at hb hp
    obtain ⟨n, rfl⟩ : ∃ n, fuel = n + 2 := ⟨fuel - 2, by omega⟩
    by_cases c : b = 0
    · refine lp_inr ?_
      show m_X10_divisor_l17 (J a) (J b) = _
      rw [go a b ha (by omega), if_pos c, c, Nat.gcd_zero_right]
    · have hr := Nat.mod_lt a (show 0 < b by omega)
      rw [lp_inl (s' := (J b, J ((a % b : Nat) : Int))) (by
        show m_X10_divisor_l17 (J a) (J b) = _
        rw [go a b ha (by omega), if_neg c])]
      by_cases c2 : a % b = 0
      · refine lp_inr ?_
        show m_X10_divisor_l17 (J b) (J ((a % b : Nat) : Int)) = _
        rw [go b (a % b) (by omega) (by omega), if_pos c2, gcd_step, c2, Nat.gcd_zero_right]
      · rw [lp_inl (s' := (J ((a % b : Nat) : Int), J ((b % (a % b) : Nat) : Int))) (by
          show m_X10_divisor_l17 (J b) (J ((a % b : Nat) : Int)) = _
          rw [go b (a % b) (by omega) (by omega), if_neg c2])]
        have := half_mod (b := b) (r := a % b) (by omega) hr
        rw [ih (a % b) (b % (a % b)) n (by omega) (by omega) (by omega) (by omega), gcd_step a b, gcd_step b]
theorem J_abs {x : Int} (h : rng x) : (if (0 : Int64) ≤ J x then some (J x) else some (-J x)) = some (J (x.natAbs : Int)) := by
  rw [← J0]
  by_cases c : 0 ≤ x
  · rw [if_pos ((J_le rng0 h).mpr c), Int.natAbs_of_nonneg c]
  · rw [if_neg (fun k => c ((J_le rng0 h).mp k)), J_neg, show (x.natAbs : Int) = -x by omega]
theorem common9 {x y : Int} (hx : rng x) (hy : rng y) : m_X1_commonOf (J x) (J y) = some (J (Nat.gcd x.natAbs y.natAbs : Nat)) := by
  have key : lp (fun z : Int64 × Int64 × Int32 => m_X1_commonOf_l31 z.1 z.2.1 z.2.2) fu (J (x.natAbs : Int), J (y.natAbs : Int), (0 : Int32)) = _ := gcd9 62 x.natAbs y.natAbs 0 fu (by obtain ⟨a, b⟩ := hx; omega) (by obtain ⟨a, b⟩ := hy; show y.natAbs < 4611686018427387904; omega) (by decide) (by decide) (by decide)
  unfold m_X1_commonOf
  rw [J_abs hx, J_abs hy, Option.bind_some, Option.bind_some, key, Option.bind_some]
theorem divisor10 {x : Int} {d : Nat} (hx : rng x) (hd : rng d) : m_X10_divisor (J x) (J d) = some (J (Nat.gcd x.natAbs d : Nat)) := by
  unfold m_X10_divisor
  rw [J_abs hx, Option.bind_some, gcd10 62 x.natAbs d fu (by obtain ⟨a, b⟩ := hx; omega) (by obtain ⟨a, b⟩ := hd; show d < 4611686018427387904; omega) (by decide) (by decide), Option.bind_some]
theorem mkRat_parts {x : Int} {d : Nat} (hd : 0 < d) : (mkRat x d).num = x / (Nat.gcd x.natAbs d : Nat) ∧ (mkRat x d).den = d / Nat.gcd x.natAbs d := by
  rw [Rat.num_mkRat, Rat.den_mkRat, if_neg (by omega), if_neg (by omega), Nat.gcd_comm]
  exact ⟨rfl, rfl⟩
theorem make9 (s : T1) {x : Int} {d : Nat} (hx : rng x) (hd : 0 < d) (hd2 : rng d) : m_X1_make s (J x) (J d) = some (J (mkRat x d).num, J ((mkRat x d).den : Int)) := by
  obtain ⟨e1, e2⟩ := mkRat_parts (x := x) hd
  have g0 : 0 < Nat.gcd x.natAbs d := Nat.gcd_pos_of_pos_right _ hd
  have g1 : Nat.gcd x.natAbs d ≤ d := Nat.gcd_le_right _ hd
  have rg : rng (Nat.gcd x.natAbs d : Nat) := ⟨by omega, by obtain ⟨_, b⟩ := hd2; omega⟩
  have nz := J_ne0 rg (by omega)
  have d1 : ((Nat.gcd x.natAbs d : Nat) : Int) ∣ x := Int.ofNat_dvd_left.mpr (Nat.gcd_dvd_left _ _)
  have d2 : ((Nat.gcd x.natAbs d : Nat) : Int) ∣ (d : Int) := Int.ofNat_dvd.mpr (Nat.gcd_dvd_right _ _)
  unfold m_X1_make
  rw [common9 hx hd2, Option.bind_some, show (d : Int).natAbs = d from Int.natAbs_natCast d, if_neg (by rw [← J0, J_le hd2 rng0]; omega), if_pos (by rw [← J0, J_lt rng0 rg]; omega), if_pos nz, if_pos nz, J_div hx g0 rg d1, J_div hd2 g0 rg d2, e1, e2, Int.natCast_ediv]
theorem fraction10 (s : T10) {x : Int} {d : Nat} (hx : rng x) (hd : 0 < d) (hd2 : rng d) : m_X10_fraction s (J x) (J d) = some (J (mkRat x d).num, J ((mkRat x d).den : Int)) := by
  obtain ⟨e1, e2⟩ := mkRat_parts (x := x) hd
  have g0 : 0 < Nat.gcd x.natAbs d := Nat.gcd_pos_of_pos_right _ hd
  have g1 : Nat.gcd x.natAbs d ≤ d := Nat.gcd_le_right _ hd
  have rg : rng (Nat.gcd x.natAbs d : Nat) := ⟨by omega, by obtain ⟨_, b⟩ := hd2; omega⟩
  have nz := J_ne0 rg (by omega)
  have d1 : ((Nat.gcd x.natAbs d : Nat) : Int) ∣ x := Int.ofNat_dvd_left.mpr (Nat.gcd_dvd_left _ _)
  have d2 : ((Nat.gcd x.natAbs d : Nat) : Int) ∣ (d : Int) := Int.ofNat_dvd.mpr (Nat.gcd_dvd_right _ _)
  unfold m_X10_fraction
  rw [divisor10 hx hd2, Option.bind_some, if_pos nz, if_pos nz, J_div hx g0 rg d1, J_div hd2 g0 rg d2, e1, e2, Int.natCast_ediv]
/-- the sum of two fractions over their common multiple -/
theorem sum_parts (q : Rat) (x : Int) {d : Nat} (hd : 0 < d) : mkRat (q.num * ((d : Int) / (Nat.gcd q.den d : Nat)) + x * ((q.den : Int) / (Nat.gcd q.den d : Nat))) (q.den / Nat.gcd q.den d * d) = q + mkRat x d := by
  have hq := q.den_pos
  have g0 : 0 < Nat.gcd q.den d := Nat.gcd_pos_of_pos_right _ hd
  obtain ⟨a, ha⟩ := Nat.gcd_dvd_left q.den d
  obtain ⟨b, hb⟩ := Nat.gcd_dvd_right q.den d
  generalize hg : Nat.gcd q.den d = g at *
  have e1 : q.den / g = a := by rw [ha, Nat.mul_div_cancel_left _ g0]
  have e2 : (d : Int) / (g : Int) = (b : Int) := by rw [hb, Int.natCast_mul, Int.mul_ediv_cancel_left _ (by omega)]
  have e3 : (q.den : Int) / (g : Int) = (a : Int) := by rw [ha, Int.natCast_mul, Int.mul_ediv_cancel_left _ (by omega)]
  rw [e1, e2, e3]
  have e4 : q + mkRat x d = mkRat (q.num * d + x * q.den) (q.den * d) := by
    conv => lhs; rw [← Rat.mkRat_self q]
    rw [Rat.mkRat_add_mkRat _ _ (by omega) (by omega)]
  rw [e4, ← Rat.mkRat_mul_right (a := g) (by omega)]
  have h1 : (q.num * (b : Int) + x * (a : Int)) * (g : Int) = q.num * (d : Int) + x * (q.den : Int) := by
    rw [hb, ha, Int.natCast_mul, Int.natCast_mul, Int.add_mul, Int.mul_assoc, Int.mul_assoc, Int.mul_comm (b : Int), Int.mul_comm (a : Int)]
  have h2 : a * d * g = q.den * d := by
    rw [ha, Nat.mul_comm (a * d) g, Nat.mul_assoc]
  rw [h1, h2]
theorem add9 {s : T1} {q : Rat} (h1 : p1_above s = J q.num) (h2 : p1_below s = J (q.den : Int)) {x : Int} {d : Nat} (hd : 0 < d) (rd : rng d) (rq : rng q.den) (rn : rng (q.num * ((d : Int) / (Nat.gcd q.den d : Nat)) + x * ((q.den : Int) / (Nat.gcd q.den d : Nat)))) (rl : rng ((q.den / Nat.gcd q.den d * d : Nat) : Int)) : m_X1_add s (J x) (J d) = some (J (q + mkRat x d).num, J ((q + mkRat x d).den : Int)) := by
  have hq := q.den_pos
  have g0 : 0 < Nat.gcd q.den d := Nat.gcd_pos_of_pos_right _ hd
  have g1 : Nat.gcd q.den d ≤ d := Nat.gcd_le_right _ hd
  have rg : rng (Nat.gcd q.den d : Nat) := ⟨by omega, by obtain ⟨_, b⟩ := rd; omega⟩
  have nz := J_ne0 rg (by omega)
  have d1 : ((Nat.gcd q.den d : Nat) : Int) ∣ (q.den : Int) := Int.ofNat_dvd.mpr (Nat.gcd_dvd_left _ _)
  have d2 : ((Nat.gcd q.den d : Nat) : Int) ∣ (d : Int) := Int.ofNat_dvd.mpr (Nat.gcd_dvd_right _ _)
  have a0 : 0 < q.den / Nat.gcd q.den d := Nat.div_pos (Nat.gcd_le_left _ hq) g0
  unfold m_X1_add
  rw [h1, h2, common9 rq rd, Option.bind_some, show (d : Int).natAbs = d from Int.natAbs_natCast d, show (q.den : Int).natAbs = q.den from Int.natAbs_natCast _, if_neg (by rw [← J0, J_le rg rng0]; omega), if_pos nz, if_pos nz, if_pos nz, J_div rd g0 rg d2, J_div rq g0 rg d1, J_mul, J_mul, J_add, J_mul, ← Int.natCast_ediv, ← Int.natCast_ediv, ← Int.natCast_mul, Int.natCast_ediv, Int.natCast_ediv, make9 s rn (Nat.mul_pos a0 hd) rl, Option.bind_some, sum_parts q x hd]
theorem add10 {s : T10} {q : Rat} (h1 : p10_up s = J q.num) (h2 : p10_down s = J (q.den : Int)) {x : Int} {d : Nat} (hd : 0 < d) (rd : rng d) (rq : rng q.den) (rn : rng (q.num * ((d : Int) / (Nat.gcd q.den d : Nat)) + x * ((q.den : Int) / (Nat.gcd q.den d : Nat)))) (rl : rng ((q.den / Nat.gcd q.den d * d : Nat) : Int)) : m_X10_add s (J x) (J d) = some (J (q + mkRat x d).num, J ((q + mkRat x d).den : Int)) := by
  have hq := q.den_pos
  have g0 : 0 < Nat.gcd q.den d := Nat.gcd_pos_of_pos_right _ hd
  have g1 : Nat.gcd q.den d ≤ d := Nat.gcd_le_right _ hd
  have rg : rng (Nat.gcd q.den d : Nat) := ⟨by omega, by obtain ⟨_, b⟩ := rd; omega⟩
  have nz := J_ne0 rg (by omega)
  have d1 : ((Nat.gcd q.den d : Nat) : Int) ∣ (q.den : Int) := Int.ofNat_dvd.mpr (Nat.gcd_dvd_left _ _)
  have d2 : ((Nat.gcd q.den d : Nat) : Int) ∣ (d : Int) := Int.ofNat_dvd.mpr (Nat.gcd_dvd_right _ _)
  have a0 : 0 < q.den / Nat.gcd q.den d := Nat.div_pos (Nat.gcd_le_left _ hq) g0
  unfold m_X10_add
  rw [h1, h2, divisor10 rq rd, Option.bind_some, show (q.den : Int).natAbs = q.den from Int.natAbs_natCast _, if_pos nz, if_pos nz, if_pos nz, J_div rd g0 rg d2, J_div rq g0 rg d1, J_mul, J_mul, J_add, J_mul, ← Int.natCast_ediv, ← Int.natCast_ediv, ← Int.natCast_mul, Int.natCast_ediv, Int.natCast_ediv, fraction10 s rn (Nat.mul_pos a0 hd) rl, Option.bind_some, sum_parts q x hd]
