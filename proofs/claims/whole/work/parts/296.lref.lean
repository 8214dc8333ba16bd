/-! CHANGE in THE LINE by SQUARE: the reference adds up other squares -/
theorem faddZ {q : Rat} {x : Int} {d K c e : Nat} (hK : 0 < K) (h : BD K c q) (hd : 0 < d) (hd2 : d ∣ K) (hx : x.natAbs ≤ e * d) (hb : (c + e + 1) * K < 4611686018427387904) : rng d ∧ rng q.den ∧ rng (q.num * ((d : Int) / (Nat.gcd q.den d : Nat)) + x * ((q.den : Int) / (Nat.gcd q.den d : Nat))) ∧ rng ((q.den / Nat.gcd q.den d * d : Nat) : Int) := by
  obtain ⟨h1, h2, h3⟩ := h
  have hq := q.den_pos
  have lc : q.den / Nat.gcd q.den d * d = Nat.lcm q.den d := by
    unfold Nat.lcm
    rw [Nat.div_mul_right_comm (Nat.gcd_dvd_left _ _)]
  have lK : Nat.lcm q.den d ∣ K := Nat.lcm_dvd h1 hd2
  have lle := Nat.le_of_dvd hK lK
  have dle := Nat.le_of_dvd hK hd2
  have qle := Nat.le_of_dvd hK h1
  have Kb : K ≤ (c + e + 1) * K := Nat.le_mul_of_pos_left K (by omega)
  have hN3 : q.num.natAbs ≤ c * q.den := by
    rw [← Int.natCast_mul] at h3
    omega
  have up : q.num.natAbs * (d / Nat.gcd q.den d) + x.natAbs * (q.den / Nat.gcd q.den d) ≤ (c + e) * Nat.lcm q.den d := by
    have a1 := Nat.mul_le_mul_right (d / Nat.gcd q.den d) hN3
    have a2 := Nat.mul_le_mul_right (q.den / Nat.gcd q.den d) hx
    have a3 : c * q.den * (d / Nat.gcd q.den d) = c * Nat.lcm q.den d := by
      unfold Nat.lcm
      rw [Nat.mul_assoc, Nat.mul_div_assoc _ (Nat.gcd_dvd_right _ _)]
    have a4 : e * d * (q.den / Nat.gcd q.den d) = e * Nat.lcm q.den d := by
      rw [← lc, Nat.mul_assoc, Nat.mul_comm d]
    rw [Nat.add_mul]
    omega
  have up2 : (c + e) * Nat.lcm q.den d ≤ (c + e) * K := Nat.mul_le_mul_left _ lle
  have up3 : (c + e + 1) * K = (c + e) * K + K := by rw [Nat.add_mul, Nat.one_mul]
  rw [lc]
  refine ⟨rng_nat (by omega), rng_nat (by omega), rng_abs ?_, rng_nat (by omega)⟩
  rw [← Int.natCast_ediv, ← Int.natCast_ediv]
  refine Nat.lt_of_le_of_lt (Int.natAbs_add_le _ _) ?_
  rw [Int.natAbs_mul, Int.natAbs_mul, Int.natAbs_natCast, Int.natAbs_natCast]
  omega
/-- the square of what some have, by their WEIGHTS -/
theorem MS_sq {A : Sh} (hok : okS A) (S : Nat) : mkRat ((suS A S * suS A S : Nat) : Int) (wtS A S) = MS A S * ((suS A S : Int) : Rat) := by
  rcases Nat.eq_zero_or_pos (wtS A S) with c | c
  · have := suS_le hok S
    rw [c, show suS A S = 0 by omega]
    exact (Rat.mul_zero _).symm
  · refine (mkR_eq c ?_).symm
    rw [Int.natCast_mul, Rat.intCast_mul, ← MS_mul hok S]
    generalize MS A S = x
    generalize ((wtS A S : Int) : Rat) = y
    grind
theorem addSq10 {s : T10} {A : Sh} (h : S10 s A) (hok : okS A) {S : Nat} (hS : S < 2 ^ hN A) (h0 : S ≠ 0) {q : Rat} (h1 : p10_up s = J q.num) (h2 : p10_down s = J (q.den : Int)) {K e : Nat} (hK : 0 < K) (hq : BD K 1754424 q) (hd : wtS A S ∣ K) (he : suS A S * suS A S ≤ e * wtS A S) (hb : (1754424 + e + 1) * K < 4611686018427387904) : m_X10_addSquares s (nI S) 1 = some (J (q + MS A S * ((suS A S : Int) : Rat)).num, J ((q + MS A S * ((suS A S : Int) : Rat)).den : Int)) ∧ m_X10_addSquares s (nI S) (-1) = some (J (q + -(MS A S * ((suS A S : Int) : Rat))).num, J ((q + -(MS A S * ((suS A S : Int) : Rat))).den : Int)) := by
  obtain ⟨i, hi⟩ := bit_of_ne0 h0
  have w := wtS_pos hok (bit_lt hS hi) hi
  have wl := wtS_le hok S
  have sl := suS_le hok S
  have one : ((1 : Int32).toInt64 * (nI (suS A S)).toInt64) * (nI (suS A S)).toInt64 = J ((suS A S * suS A S : Nat) : Int) := by
    rw [nI_64 (by omega), show (1 : Int32).toInt64 = J 1 from rfl, J_mul, J_mul, Int.one_mul, Int.natCast_mul]
  have mone : ((-1 : Int32).toInt64 * (nI (suS A S)).toInt64) * (nI (suS A S)).toInt64 = J (-((suS A S * suS A S : Nat) : Int)) := by
    rw [nI_64 (by omega), show (-1 : Int32).toInt64 = J (-1) from rfl, J_mul, J_mul, Int.natCast_mul, Int.neg_mul, Int.one_mul, Int.neg_mul]
  constructor
  · obtain ⟨r1, r2, r3, r4⟩ := faddZ (x := ((suS A S * suS A S : Nat) : Int)) hK hq w hd (by rw [Int.natAbs_natCast]; exact he) hb
    unfold m_X10_addSquares
    rw [sumOf10 h hok hS, Option.bind_some, weightOf10 h hok hS, Option.bind_some, one, nI_64 (k := wtS A S) (by omega), add10 h1 h2 w r1 r2 r3 r4, Option.bind_some, MS_sq hok]
  · obtain ⟨r1, r2, r3, r4⟩ := faddZ (x := -((suS A S * suS A S : Nat) : Int)) hK hq w hd (by rw [Int.natAbs_neg, Int.natAbs_natCast]; exact he) hb
    unfold m_X10_addSquares
    rw [sumOf10 h hok hS, Option.bind_some, weightOf10 h hok hS, Option.bind_some, mone, nI_64 (k := wtS A S) (by omega), add10 h1 h2 w r1 r2 r3 r4, Option.bind_some, ← Rat.neg_mkRat, MS_sq hok]
theorem u2_in {A : Sh} (hok : okS A) {p : Nat} (hp : p < hN A) : 0 ≤ u2Q A p ∧ u2Q A p ≤ ((250632 : Nat) : Rat) := by
  have w := wtA_in hok hp
  by_cases t : hT A = 2
  · obtain ⟨p1, p2⟩ := plc_in hp
    have pb := (ofPl_bit (v := hP A p) hp).mpr rfl
    have W : 0 < wtS A (plc A p) := wtS_pos hok hp pb
    have sl := suS_le hok (plc A p)
    have e : u2Q A p = mkRat ((wtA A p * suS A (plc A p) * suS A (plc A p) : Nat) : Int) (wtS A (plc A p) * wtS A (plc A p)) := by
      refine mkR_eq (Nat.mul_pos W W) ?_
      have m := MS_mul hok (plc A p)
      unfold u2Q spQ wQ
      rw [if_pos t]
      simp only [Int.natCast_mul, Rat.intCast_mul]
      rw [← m]
      generalize MS A (plc A p) = x
      generalize ((wtS A (plc A p) : Int) : Rat) = y
      generalize ((wtA A p : Int) : Rat) = z
      grind
    rw [e]
    refine nat_rat (Nat.mul_pos W W) ?_
    have a1 : wtA A p * suS A (plc A p) ≤ 18 * (118 * wtS A (plc A p)) := Nat.mul_le_mul w.2 sl
    have a2 := Nat.mul_le_mul a1 sl
    have e2 : 18 * (118 * wtS A (plc A p)) * (118 * wtS A (plc A p)) = 250632 * (wtS A (plc A p) * wtS A (plc A p)) := by
      generalize wtS A (plc A p) = d
      have e1 : 18 * (118 * d) * (118 * d) = (18 * 118 * 118) * (d * d) := by ac_rfl
      rw [e1]
    omega
  · have m := mkA_le hok hp
    have e : u2Q A p = mkRat ((wtA A p * mkA A p * mkA A p : Nat) : Int) 1 := by
      refine mkR_eq (by decide) ?_
      unfold u2Q spQ wQ
      rw [if_neg t]
      simp only [Int.natCast_mul, Rat.intCast_mul]
      exact Rat.mul_one _
    rw [e]
    refine nat_rat (by decide) ?_
    have a1 : wtA A p * mkA A p ≤ 18 * 118 := Nat.mul_le_mul w.2 m
    have a2 : wtA A p * mkA A p * mkA A p ≤ 18 * 118 * 118 := Nat.mul_le_mul a1 m
    omega
theorem u2_sum {A : Sh} (hok : okS A) (P : Nat → Bool) {k : Nat} (hk : k ≤ hN A) : 0 ≤ sQ (u2Q A) P k ∧ sQ (u2Q A) P k ≤ ((1754424 : Nat) : Rat) := by
  have n7 := hok.1.1
  obtain ⟨a, b⟩ := sQ_le (P := P) (n := k) (fun i hi => u2_in hok (show i < hN A by omega))
  exact ⟨a, Rat.le_trans b (Rat.natCast_le_natCast.mpr (by omega))⟩
theorem S10_ud {s : T10} {A : Sh} (h : S10 s A) (a b : Int64) : S10 (u10_down b (u10_up a s)) A := S10_mk h (by dsimp only [c10])
theorem singles10 {s : T10} {A : Sh} (h : S10 s A) (hok : okS A) (t : hT A ≠ 2) : lp (fun z : Int32 × Int64 × Int64 => m_X10_lineSquares_l51_2 s z.1 z.2.1 z.2.2) fu ((0 : Int32), J 0, J 1) = some (J (sQ (u2Q A) (fun _ => true) (hN A)).num, J ((sQ (u2Q A) (fun _ => true) (hN A)).den : Int)) := by
  have n7 := hok.1.1
  refine lp_for (fun k => (nI k, J (sQ (u2Q A) (fun _ => true) k).num, J ((sQ (u2Q A) (fun _ => true) k).den : Int))) (hN A) (fun k hk => ?_) ?_ (by omega) rfl
  · have w := wtA_in hok hk
    have m := mkA_le hok hk
    have lt : 2 ^ k < 2 ^ hN A := Nat.pow_lt_pow_right (by decide) hk
    have pp := Nat.two_pow_pos k
    have e1 : suS A (2 ^ k) = mkA A k * wtA A k := sm_single (g := fun q => mkA A q * wtA A q) hk
    have e2 : wtS A (2 ^ k) = wtA A k := sm_single (g := fun q => wtA A q) hk
    obtain ⟨b1, b2⟩ := u2_sum hok (fun _ => true) (show k ≤ hN A by omega)
    have int : zK 1 (sQ (u2Q A) (fun _ => true) k) := zK_sQ (fun i hi _ => by
      unfold u2Q spQ wQ
      rw [if_neg t, ← Rat.intCast_mul, ← Rat.intCast_mul]
      exact zK_int 1 _)
    have dv : (sQ (u2Q A) (fun _ => true) k).den ∣ wtA A k := Nat.dvd_trans (zK_den (by decide) int) (Nat.one_dvd _)
    have sq : suS A (2 ^ k) * suS A (2 ^ k) ≤ 250632 * wtS A (2 ^ k) := by
      rw [e1, e2]
      have a1 : mkA A k * (mkA A k * wtA A k) ≤ 118 * (118 * 18) := Nat.mul_le_mul m (Nat.mul_le_mul m w.2)
      have a2 := Nat.mul_le_mul_right (wtA A k) a1
      have a3 : mkA A k * wtA A k * (mkA A k * wtA A k) = mkA A k * (mkA A k * wtA A k) * wtA A k := by ac_rfl
      rw [a3]
      exact a2
    obtain ⟨r, -⟩ := addSq10 (s := u10_down (J ((sQ (u2Q A) (fun _ => true) k).den : Int)) (u10_up (J (sQ (u2Q A) (fun _ => true) k).num) s)) (S10_ud h _ _) hok lt (by omega) rfl rfl (K := wtA A k) (e := 250632) (by omega) (BD_of dv b1 b2) (by rw [e2]; exact Nat.dvd_refl _) sq (by omega)
    have nx : sQ (u2Q A) (fun _ => true) (k + 1) = sQ (u2Q A) (fun _ => true) k + MS A (2 ^ k) * ((suS A (2 ^ k) : Int) : Rat) := by
      rw [sQ, if_pos rfl, MS_one hok hk, e1]
      congr 1
      unfold u2Q spQ wQ
      rw [if_neg t, Int.natCast_mul, Rat.intCast_mul]
      generalize ((mkA A k : Int) : Rat) = x
      generalize ((wtA A k : Int) : Rat) = y
      grind
    show m_X10_lineSquares_l51_2 s (nI k) (J (sQ (u2Q A) (fun _ => true) k).num) (J ((sQ (u2Q A) (fun _ => true) k).den : Int)) = _
    unfold m_X10_lineSquares_l51_2
    rw [h.1, if_neg (nI_ge hk (by omega)), nI_shl1 _ (by omega), r, Option.bind_some, nI_1, nx]
  · show m_X10_lineSquares_l51_2 s (nI (hN A)) (J (sQ (u2Q A) (fun _ => true) (hN A)).num) (J ((sQ (u2Q A) (fun _ => true) (hN A)).den : Int)) = _
    unfold m_X10_lineSquares_l51_2
    rw [h.1, if_pos (nI_le (Nat.le_refl _) (by omega))]
theorem PK_all {A : Sh} (hok : okS A) (e : Nat) : PK A 0 e ≤ 279936 := by
  have a := PK_le hok 0 e
  have b := ee_le (A := A) 0 e
  rw [plN_sum hok] at b
  have c := pcn_le _ (lt128 hok (bs_lt (iv A 0 e) (hN A)))
  have d : 6 ^ sm (eeN A 0) e ≤ 6 ^ 7 := Nat.pow_le_pow_right (by decide) (by omega)
  have h3 : 6 ^ 7 = 279936 := by decide
  omega
theorem su_sq {A : Sh} (hok : okS A) (S : Nat) : suS A S * suS A S ≤ 1754424 * wtS A S := by
  have sl := suS_le hok S
  have wl := wtS_le hok S
  have a1 : suS A S * suS A S ≤ 14868 * (118 * wtS A S) := Nat.mul_le_mul (by omega) sl
  omega
theorem places10 {s : T10} {A : Sh} (h : S10 s A) (hok : okS A) (t : hT A = 2) : lp (fun z : Int32 × Int64 × Int64 => m_X10_lineSquares_l16_2 s z.1 z.2.1 z.2.2) fu ((0 : Int32), J 0, J 1) = some (J (sQ (u2Q A) (fun _ => true) (hN A)).num, J ((sQ (u2Q A) (fun _ => true) (hN A)).den : Int)) := by
  have n7 := hok.1.1
  have all : sQ (u2Q A) (iv A 0 10) (hN A) = sQ (u2Q A) (fun _ => true) (hN A) := sQ_congr (fun p hp => iv_iff.mpr ⟨Nat.zero_le _, by have := hP_le hok hp; omega⟩)
  rw [← all]
  refine lp_for (fun k => (nI k, J (sQ (u2Q A) (iv A 0 k) (hN A)).num, J ((sQ (u2Q A) (iv A 0 k) (hN A)).den : Int))) 10 (fun k hk => ?_) ?_ (by omega) ?_
  · have ol := ofPl_lt A k
    have p7 := pow_le7 n7
    have st := iv_step (A := A) (Nat.zero_le k) (u2Q A)
    show m_X10_lineSquares_l16_2 s (nI k) (J (sQ (u2Q A) (iv A 0 k) (hN A)).num) (J ((sQ (u2Q A) (iv A 0 k) (hN A)).den : Int)) = _
    unfold m_X10_lineSquares_l16_2
    rw [if_neg (show ¬ (10 : Int32) ≤ nI k from nI_ge (b := 10) hk (by omega)), ofPlace10 (S10_ud h _ _) hok (by omega), Option.bind_some]
    by_cases c : ofPl A k = 0
    · have z : sQ (u2Q A) (fun p => (ofPl A k).testBit p) (hN A) = 0 := sQ_zero (fun i _ hb => by rw [c, Nat.zero_testBit] at hb; cases hb)
      rw [z, Rat.add_zero] at st
      rw [c, if_pos (show nI 0 = 0 from rfl), nI_1, st]
    · have W : 0 < wtS A (ofPl A k) := by
        obtain ⟨i, hi⟩ := bit_of_ne0 c
        exact wtS_pos hok (bit_lt ol hi) hi
      have wl := wtS_le hok (ofPl A k)
      have P0 := PK_pos hok 0 k
      have PA := PK_all hok k
      have dv := zK_den P0 (u2_zK hok t (Nat.zero_le k))
      obtain ⟨b1, b2⟩ := u2_sum hok (iv A 0 k) (Nat.le_refl _)
      have KB : PK A 0 k * wtS A (ofPl A k) ≤ 279936 * 126 := Nat.mul_le_mul PA wl
      obtain ⟨r, -⟩ := addSq10 (s := u10_down (J ((sQ (u2Q A) (iv A 0 k) (hN A)).den : Int)) (u10_up (J (sQ (u2Q A) (iv A 0 k) (hN A)).num) s)) (S10_ud h _ _) hok ol c rfl rfl (K := PK A 0 k * wtS A (ofPl A k)) (e := 1754424) (Nat.mul_pos P0 W) (BD_of (Nat.dvd_trans dv (Nat.dvd_mul_right _ _)) b1 b2) (Nat.dvd_mul_left _ _) (su_sq hok _) (by omega)
      rw [if_neg (nI_z (by omega) c), Option.bind_some, r, Option.bind_some, nI_1, st, pl_u2 hok t k]
  · show m_X10_lineSquares_l16_2 s (nI 10) (J (sQ (u2Q A) (iv A 0 10) (hN A)).num) (J ((sQ (u2Q A) (iv A 0 10) (hN A)).den : Int)) = _
    unfold m_X10_lineSquares_l16_2
    rw [if_pos (by decide)]
  · rw [iv_none]
    rfl
theorem MSsu_nn {A : Sh} (hok : okS A) (S : Nat) : 0 ≤ MS A S * ((suS A S : Int) : Rat) := by
  rw [← MS_sq hok]
  rcases Nat.eq_zero_or_pos (wtS A S) with c | c
  · have := suS_le hok S
    rw [c, show suS A S = 0 by omega]
    exact Rat.le_refl
  · exact (nat_rat c (e := 1754424) (su_sq hok S)).1
theorem bs_mono {A : Sh} (hok : okS A) {i : Nat} : ∀ {j}, i ≤ j → bsQ A i ≤ bsQ A j := by
  intro j
  induction j with
  | zero => intro h; rw [show i = 0 by omega]; exact Rat.le_refl
  | succ j ih =>
    intro h
    rcases Nat.lt_or_ge i (j + 1) with q | q
    · refine Rat.le_trans (ih (by omega)) ?_
      rw [bsQ]
      have := (Rat.add_le_add_left (c := bsQ A j)).mpr (MSsu_nn hok (gK A j))
      rw [Rat.add_zero] at this
      exact this
    · rw [show i = j + 1 by omega]; exact Rat.le_refl
def rsQ (A : Sh) (i : Nat) : Rat := sQ (u2Q A) (fun _ => true) (hN A) + -bsQ A i
theorem rs_in {A : Sh} (hok : okS A) {i : Nat} (hi : i ≤ cK A) : 0 ≤ rsQ A i ∧ rsQ A i ≤ ((1754424 : Nat) : Rat) := by
  constructor
  · have a : 0 ≤ chL A 0 := (sQ_le (P := fun _ => true) (n := hN A) (fun i hi => tL_in hok 0 hi)).1
    rw [chL_sum hok] at a
    refine Rat.le_trans a ?_
    exact Rat.add_le_add_left.mpr (Rat.neg_le_neg (bs_mono hok hi))
  · have b := (u2_sum hok (fun _ => true) (Nat.le_refl _)).2
    have z : bsQ A 0 ≤ bsQ A i := bs_mono hok (Nat.zero_le i)
    have z2 : -bsQ A i ≤ 0 := Rat.neg_le_neg z
    have := (Rat.add_le_add_left (c := sQ (u2Q A) (fun _ => true) (hN A))).mpr z2
    rw [Rat.add_zero] at this
    exact Rat.le_trans this b
/-- over which all MEANS of the reference's sum lie -/
def kP (A : Sh) : Nat := if hT A = 2 then PK A 0 10 else 1
theorem kP_in {A : Sh} (hok : okS A) : 0 < kP A ∧ kP A ≤ 279936 ∧ zK (kP A) (sQ (u2Q A) (fun _ => true) (hN A)) := by
  unfold kP
  by_cases t : hT A = 2
  · rw [if_pos t]
    refine ⟨PK_pos hok 0 10, PK_all hok 10, ?_⟩
    have all : sQ (u2Q A) (iv A 0 10) (hN A) = sQ (u2Q A) (fun _ => true) (hN A) := sQ_congr (fun p hp => iv_iff.mpr ⟨Nat.zero_le _, by have := hP_le hok hp; omega⟩)
    rw [← all]
    exact u2_zK hok t (Nat.zero_le 10)
  · rw [if_neg t]
    refine ⟨by decide, by decide, zK_sQ (fun i hi _ => ?_)⟩
    unfold u2Q spQ wQ
    rw [if_neg t, ← Rat.intCast_mul, ← Rat.intCast_mul]
    exact zK_int 1 _
theorem bs_zK {A : Sh} (hok : okS A) : ∀ i, i ≤ cK A → zK (kB A) (bsQ A i) := by
  intro i
  induction i with
  | zero => exact fun _ => zK_zero _
  | succ i ih =>
    intro hi
    rw [bsQ, Rat.mul_comm (MS A (gK A i))]
    exact zK_add (ih (by omega)) (zK_times _ ((kB_in hok).2.2 i (by omega)))
theorem blocks10 {s : T10} {A : Sh} (h : S10 s A) (hok : okS A) (e0 : p10_blocks s = nI (cK A)) (e1 : Eqn (p10_block s) (gK A) (cK A)) : lp (fun z : Int32 × Int64 × Int64 => m_X10_lineSquares_l75 s z.1 z.2.1 z.2.2) fu ((0 : Int32), J (rsQ A 0).num, J ((rsQ A 0).den : Int)) = some (J (chL A 0).num, J ((chL A 0).den : Int)) := by
  have bk := bkK hok
  have c7 : cK A ≤ 7 := bk.1
  obtain ⟨kb0, kb1, kb2⟩ := kB_in hok
  obtain ⟨kp0, kp1, kp2⟩ := kP_in hok
  have KB : kP A * kB A ≤ 279936 * 279936 := Nat.mul_le_mul kp1 kb1
  have K0 : 0 < kP A * kB A := Nat.mul_pos kp0 kb0
  rw [chL_sum hok]
  show _ = some (J (rsQ A (cK A)).num, J ((rsQ A (cK A)).den : Int))
  refine lp_for (fun k => (nI k, J (rsQ A k).num, J ((rsQ A k).den : Int))) (cK A) (fun k hk => ?_) ?_ (by omega) rfl
  · obtain ⟨g0, g1, g2⟩ := bk.2.2.2.2 k hk
    obtain ⟨b1, b2⟩ := rs_in hok (show k ≤ cK A by omega)
    have dv : (rsQ A k).den ∣ kP A * kB A := zK_den K0 (zK_add (zK_up kp2 (Nat.dvd_mul_right _ _)) (zK_neg (zK_up (bs_zK hok k (by omega)) (Nat.dvd_mul_left _ _))))
    have nx : rsQ A (k + 1) = rsQ A k + -(MS A (gK A k) * ((suS A (gK A k) : Int) : Rat)) := by
      unfold rsQ
      rw [bsQ]
      generalize MS A (gK A k) * ((suS A (gK A k) : Int) : Rat) = x
      generalize bsQ A k = y
      generalize sQ (u2Q A) (fun _ => true) (hN A) = z
      grind
    have r : m_X10_addSquares (u10_down (J ((rsQ A k).den : Int)) (u10_up (J (rsQ A k).num) s)) (nI (gK A k)) (-1) = some (J (rsQ A (k + 1)).num, J ((rsQ A (k + 1)).den : Int)) := by
      rw [nx]
      by_cases c : 2 ≤ pcn (gK A k)
      · have d : wtS A (gK A k) ∣ kB A := by
          have := pr_dvd (fun i => kW A (gK A i)) hk
          simp only [kW, if_pos c] at this
          exact this
        exact (addSq10 (S10_ud h _ _) hok g1 g0 rfl rfl (K := kP A * kB A) (e := 1754424) K0 (BD_of dv b1 b2) (Nat.dvd_trans d (Nat.dvd_mul_left _ _)) (su_sq hok _) (by omega)).2
      · obtain ⟨p, hp⟩ := one_bit2 (lt128 hok g1) g0 c
        have pn : p < hN A := bit_lt g1 (by rw [hp]; exact p2_bit.mpr rfl)
        have w := wtA_in hok pn
        have m := mkA_le hok pn
        have e1 : suS A (gK A k) = mkA A p * wtA A p := by rw [hp]; exact sm_single (g := fun q => mkA A q * wtA A q) pn
        have e2 : wtS A (gK A k) = wtA A p := by rw [hp]; exact sm_single (g := fun q => wtA A q) pn
        have sq : suS A (gK A k) * suS A (gK A k) ≤ 250632 * wtS A (gK A k) := by
          rw [e1, e2]
          have a1 : mkA A p * (mkA A p * wtA A p) ≤ 118 * (118 * 18) := Nat.mul_le_mul m (Nat.mul_le_mul m w.2)
          have a2 := Nat.mul_le_mul_right (wtA A p) a1
          have a3 : mkA A p * wtA A p * (mkA A p * wtA A p) = mkA A p * (mkA A p * wtA A p) * wtA A p := by ac_rfl
          rw [a3]
          exact a2
        have KB2 : kP A * kB A * wtS A (gK A k) ≤ 279936 * 279936 * 18 := Nat.mul_le_mul KB (by omega)
        exact (addSq10 (S10_ud h _ _) hok g1 g0 rfl rfl (K := kP A * kB A * wtS A (gK A k)) (e := 250632) (Nat.mul_pos K0 (by omega)) (BD_of (Nat.dvd_trans dv (Nat.dvd_mul_right _ _)) b1 b2) (Nat.dvd_mul_left _ _) sq (by omega)).2
    show m_X10_lineSquares_l75 s (nI k) (J (rsQ A k).num) (J ((rsQ A k).den : Int)) = _
    unfold m_X10_lineSquares_l75
    rw [e0, if_neg (nI_ge hk (by omega)), if_pos (inb_nI (by omega) (by decide)), nI_clamp (by omega), e1 k hk, r, Option.bind_some, nI_1]
  · show m_X10_lineSquares_l75 s (nI (cK A)) (J (rsQ A (cK A)).num) (J ((rsQ A (cK A)).den : Int)) = _
    unfold m_X10_lineSquares_l75
    rw [e0, if_pos (nI_le (Nat.le_refl _) (by omega))]
theorem squaresL10 {s : T10} {A : Sh} (h : S10 s A) (hok : okS A) (e0 : p10_blocks s = nI (cK A)) (e1 : Eqn (p10_block s) (gK A) (cK A)) : m_X10_lineSquares s = some (J (chL A 0).num, J ((chL A 0).den : Int)) := by
  have t2 := hok.2.2.2
  have f0 : m_X10_fraction s 0 1 = some (J 0, J 1) := by
    have := fraction10 s (x := 0) (d := 1) rng0 (by decide) (rng_nat (by decide))
    exact this
  have rs0 : rsQ A 0 = sQ (u2Q A) (fun _ => true) (hN A) := by
    unfold rsQ
    rw [bsQ]
    exact Rat.add_zero _
  have b := blocks10 h hok e0 e1
  rw [rs0] at b
  unfold m_X10_lineSquares
  rw [f0, Option.bind_some, h.2.2.2.2]
  by_cases t : hT A = 2
  · rw [if_pos (by rw [t]; rfl), places10 h hok t, Option.bind_some, Option.bind_some, b, Option.bind_some]
  · rw [if_neg (nI_two (by omega) t), singles10 h hok t, Option.bind_some, Option.bind_some, b, Option.bind_some]
