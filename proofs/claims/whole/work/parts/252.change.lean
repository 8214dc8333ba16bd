/-! CHANGE: sums of fractions that stay small -/
/-- a fraction over a divisor of K, from 0 to c -/
def BD (K c : Nat) (q : Rat) : Prop := q.den ∣ K ∧ 0 ≤ q.num ∧ q.num ≤ (c : Int) * (q.den : Int)
theorem fadd {q : Rat} {K c e x d : Nat} (hK : 0 < K) (h : BD K c q) (hd : 0 < d) (hd2 : d ∣ K) (hx : x ≤ e * d) (hb : (c + e + 1) * K < 4611686018427387904) : BD K (c + e) (q + mkRat (x : Int) d) ∧ rng d ∧ rng q.den ∧ rng (q.num * ((d : Int) / (Nat.gcd q.den d : Nat)) + (x : Int) * ((q.den : Int) / (Nat.gcd q.den d : Nat))) ∧ rng ((q.den / Nat.gcd q.den d * d : Nat) : Int) := by
  obtain ⟨h1, h2, h3⟩ := h
  have hq := q.den_pos
  have g0 : 0 < Nat.gcd q.den d := Nat.gcd_pos_of_pos_right _ hd
  have sp := sum_parts q (x : Int) hd
  have lc : q.den / Nat.gcd q.den d * d = Nat.lcm q.den d := by
    unfold Nat.lcm
    rw [Nat.div_mul_right_comm (Nat.gcd_dvd_left _ _)]
  have lK : Nat.lcm q.den d ∣ K := Nat.lcm_dvd h1 hd2
  have l0 : 0 < Nat.lcm q.den d := Nat.lcm_pos hq hd
  have lle := Nat.le_of_dvd hK lK
  have dle := Nat.le_of_dvd hK hd2
  have qle := Nat.le_of_dvd hK h1
  have Kb : K ≤ (c + e + 1) * K := Nat.le_mul_of_pos_left K (by omega)
  obtain ⟨N, hN⟩ : ∃ N : Nat, q.num = (N : Int) := ⟨q.num.toNat, by omega⟩
  have e1 : (d : Int) / (Nat.gcd q.den d : Nat) = ((d / Nat.gcd q.den d : Nat) : Int) := (Int.natCast_ediv _ _).symm
  have e2 : (q.den : Int) / (Nat.gcd q.den d : Nat) = ((q.den / Nat.gcd q.den d : Nat) : Int) := (Int.natCast_ediv _ _).symm
  have hN3 : N ≤ c * q.den := by
    rw [hN, ← Int.natCast_mul] at h3
    omega
  -- the number above the line
  have up : N * (d / Nat.gcd q.den d) + x * (q.den / Nat.gcd q.den d) ≤ (c + e) * Nat.lcm q.den d := by
    have a1 := Nat.mul_le_mul_right (d / Nat.gcd q.den d) hN3
    have a2 := Nat.mul_le_mul_right (q.den / Nat.gcd q.den d) hx
    have a3 : c * q.den * (d / Nat.gcd q.den d) = c * Nat.lcm q.den d := by
      unfold Nat.lcm
      rw [Nat.mul_assoc, Nat.mul_div_assoc _ (Nat.gcd_dvd_right _ _)]
    have a4 : e * d * (q.den / Nat.gcd q.den d) = e * Nat.lcm q.den d := by
      rw [← lc, Nat.mul_assoc, Nat.mul_comm d]
    rw [Nat.add_mul]
    omega
  have up2 : (c + e) * Nat.lcm q.den d ≤ (c + e) * K := Nat.mul_le_mul_left _ lle
  have up3 : (c + e + 1) * K = (c + e) * K + K := by rw [Nat.add_mul, Nat.one_mul]
  rw [hN, e1, e2, ← Int.natCast_mul, ← Int.natCast_mul, ← Int.natCast_add]
  rw [hN, e1, e2, ← Int.natCast_mul, ← Int.natCast_mul, ← Int.natCast_add, lc] at sp
  rw [lc]
  refine ⟨?_, rng_nat (by omega), rng_nat (by omega), rng_nat (by omega), rng_nat (by omega)⟩
  rw [← sp]
  obtain ⟨m1, m2, m3, m4, m5⟩ := red_nat (N * (d / Nat.gcd q.den d) + x * (q.den / Nat.gcd q.den d)) l0
  generalize hA : N * (d / Nat.gcd q.den d) + x * (q.den / Nat.gcd q.den d) = U at *
  refine ⟨?_, ?_, ?_⟩
  · rw [m2]
    exact Nat.dvd_trans (Nat.div_dvd_of_dvd (Nat.gcd_dvd_right _ _)) lK
  · rw [m1]; exact Int.natCast_nonneg _
  · rw [m1, m2, ← Int.natCast_mul]
    refine Int.ofNat_le.mpr ?_
    refine Nat.le_of_mul_le_mul_right (c := Nat.lcm q.den d) ?_ l0
    rw [m5]
    have := Nat.mul_le_mul_right (Nat.lcm q.den d / Nat.gcd U (Nat.lcm q.den d)) up
    rw [Nat.mul_right_comm] at this
    exact this
def sQ (f : Nat → Rat) (P : Nat → Bool) : Nat → Rat
  | 0 => 0
  | k + 1 => sQ f P k + (if P k = true then f k else 0)
theorem sQ_congr {f : Nat → Rat} {P Q : Nat → Bool} : ∀ {n : Nat}, (∀ i, i < n → P i = Q i) → sQ f P n = sQ f Q n := by
  intro n
  induction n with
  | zero => intro _; rfl
  | succ n ih =>
    intro h
    rw [sQ, sQ, ih (fun i hi => h i (by omega)), h n (by omega)]
theorem sQ_add {f : Nat → Rat} {P : Nat → Bool} {k : Nat} : ∀ {n : Nat}, k < n → P k = false → sQ f (fun i => P i || decide (i = k)) n = sQ f P n + f k := by
  intro n
  induction n with
  | zero => intro h; omega
  | succ n ih =>
    intro h hP
    rw [sQ, sQ]
    by_cases c : n = k
    · rw [c, hP, if_pos (by simp), if_neg (by decide), Rat.add_zero, sQ_congr (Q := P) (fun i hi => by rw [decide_eq_false (by omega), Bool.or_false])]
    · rw [ih (by omega) hP]
      have e : (P n || decide (n = k)) = P n := by rw [decide_eq_false c, Bool.or_false]
      rw [e, Rat.add_assoc, Rat.add_comm (f k), ← Rat.add_assoc]
theorem sQ_none (f : Nat → Rat) : ∀ n, sQ f (fun _ => false) n = 0 := by
  intro n
  induction n with
  | zero => rfl
  | succ n ih => rw [sQ, ih, if_neg (by decide), Rat.add_zero]
/-- by how much a value and its mark differ, over the line of the value -/
def byN (A : Sh) (u d : Nat → Nat) (p : Nat) : Nat := ((u p : Int) - ((mkA A p * d p : Nat) : Int)).natAbs
theorem byN_le {A : Sh} (hok : okS A) {u d : Nat → Nat} {p : Nat} (hp : p < hN A) (h : u p ≤ 118 * d p) : byN A u d p ≤ 118 * d p := by
  have := Nat.mul_le_mul_right (d p) (mkA_le hok hp)
  unfold byN
  omega
def tN (A : Sh) (l : Nat) (u d : Nat → Nat) (p : Nat) : Nat := if l = 0 then wtA A p * byN A u d p * byN A u d p else wtA A p * byN A u d p
def tD (l : Nat) (d : Nat → Nat) (p : Nat) : Nat := if l = 0 then d p * d p else d p
def tQ (A : Sh) (l : Nat) (u d : Nat → Nat) (p : Nat) : Rat := mkRat (tN A l u d p : Int) (tD l d p)
theorem tN_le {A : Sh} (hok : okS A) {l : Nat} {u d : Nat → Nat} {p : Nat} (hp : p < hN A) (h : u p ≤ 118 * d p) : tN A l u d p ≤ 250632 * tD l d p := by
  have b := byN_le hok hp h
  have w := (wtA_in hok hp).2
  unfold tN tD
  by_cases c : l = 0
  · rw [if_pos c, if_pos c]
    have h1 := Nat.mul_le_mul (Nat.mul_le_mul w b) b
    have h2 : 18 * (118 * d p) * (118 * d p) = 250632 * (d p * d p) := by
      rw [show 18 * (118 * d p) = 2124 * d p by omega, Nat.mul_mul_mul_comm]
    omega
  · rw [if_neg c, if_neg c]
    have h1 := Nat.mul_le_mul w b
    omega
theorem abs_J {y : Int} (h : rng y) : (some (if (0 : Int64) < J y then J y else -J y) : Option Int64) = some (J (y.natAbs : Int)) := by
  rw [← J0]
  by_cases c : 0 < y
  · rw [if_pos ((J_lt rng0 h).mpr c), show (y.natAbs : Int) = y by omega]
  · rw [if_neg (fun k => c ((J_lt rng0 h).mp k)), J_neg, show (y.natAbs : Int) = -y by omega]
