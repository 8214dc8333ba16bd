/-! the class by SQUARE -/
theorem nl_new {sB wB sb wb sS wS : Nat} (hS : 0 < wS) (h1 : sb * wB < sB * wb) (h2 : sB * wS ≤ sS * wB) : sb * wS < sS * wb := by
  refine Nat.lt_of_mul_lt_mul_right (a := wB) ?_
  have e1 : sb * wS * wB = sb * wB * wS := Nat.mul_right_comm _ _ _
  have e2 : sb * wB * wS < sB * wb * wS := Nat.mul_lt_mul_of_pos_right h1 hS
  have e3 : sB * wb * wS = sB * wS * wb := Nat.mul_right_comm _ _ _
  have e4 : sB * wS * wb ≤ sS * wB * wb := Nat.mul_le_mul_right _ h2
  have e5 : sS * wB * wb = sS * wb * wB := Nat.mul_right_comm _ _ _
  omega
theorem prod_lt {A : Sh} (hok : okS A) (S T : Nat) : suS A S * wtS A T < 2 ^ 31 := by
  have h1 := suS_le hok S
  have h2 := wtS_le hok S
  have h3 := wtS_le hok T
  have : suS A S * wtS A T ≤ 14868 * 126 := Nat.mul_le_mul (by omega) h3
  omega
theorem next9 {b R : Nat} (hb : 1 ≤ b) : (nI b - 1) &&& nI R = nI ((b - 1) &&& R) := by
  rw [nI_pred_of hb, nI_and]
theorem byMean9 {s : T0} {A : Sh} {W : Nat} (hok : okS A) (t1 : Eqn (p0_sums s) (suS A) (2 ^ hN A)) (t2 : Eqn (p0_weighs s) (wtS A) (2 ^ hN A)) (t3 : SD (p0_downs s) A W (2 ^ hN A)) {R : Nat} (hR : R < 2 ^ hN A) (h0 : R ≠ 0) : ∃ B, m_X0_leastByMean s (nI R) = some (nI B) ∧ bestq A W R B := by
  have n7 := hok.1.1
  have p7 := pow_le7 n7
  have subn : ∀ b, sub ((b - 1) &&& R) R := fun b i hi => (and_bit.mp hi).2
  have wpos : ∀ S, sub S R → S ≠ 0 → 0 < wtS A S := fun S h1 h2 => by
    obtain ⟨i, hi⟩ := bit_of_ne0 h2
    exact wtS_pos hok (bit_lt hR (h1 i hi)) hi
  obtain ⟨r, e, B, q1, q2⟩ := lp_invf (f := fun z : Int32 × Int32 => m_X0_leastByMean_l4 s (nI R) z.1 z.2) (I := fun d z => ∃ B, z.2 = nI d ∧ z.1 = nI B ∧ sub d R ∧ sub B R ∧ B ≠ 0 ∧ low A W B R ∧ d ≤ B ∧ ∀ S, sub S R → S ≠ 0 → low A W S R → d < S → suS A B * wtS A S ≤ suS A S * wtS A B ∧ (suS A B * wtS A S = suS A S * wtS A B → S ≤ B)) (Q := fun r => ∃ B, r = nI B ∧ bestq A W R B) (d := R) (s := (nI R, nI R)) (by
    rintro d ⟨z1, z2⟩ ⟨B, rfl, rfl, sd, sB, B0, lB, dB, all⟩
    simp only
    have lR := sub_le sd
    have lB2 := sub_le sB
    rcases Nat.eq_zero_or_pos d with q | q
    · refine Or.inr ⟨nI B, ?_, B, rfl, best_num ⟨sB, B0, lB, fun S h1 h2 h3 => (all S h1 h2 h3 (by omega)).1⟩ (fun S h1 h2 h3 => (all S h1 h2 h3 (by omega)).2)⟩
      unfold m_X0_leastByMean_l4
      rw [q, if_pos (by decide)]
    · have lt : (d - 1) &&& R < d := Nat.lt_of_le_of_lt Nat.and_le_left (by omega)
      have p1 := prod_lt hok d B
      have p2 := prod_lt hok B d
      have cont : ∀ S, sub S R → (d - 1) &&& R < S → S = d ∨ d < S := by
        intro S h1 h2
        rcases Nat.lt_or_ge S d with w | w
        · have := sub_next (hN A) R d S (by omega) sd h1 w
          omega
        · omega
      have go : m_X0_leastByMean_l4 s (nI R) (nI B) (nI d) = (m_X0_isLow s (nI d) (nI R)).bind fun x8 => if x8 = 0 then some (.inl (nI B, nI ((d - 1) &&& R))) else if suS A B * wtS A d ≤ suS A d * wtS A B then some (.inl (nI B, nI ((d - 1) &&& R))) else some (.inl (nI d, nI ((d - 1) &&& R))) := by
        unfold m_X0_leastByMean_l4
        rw [if_neg (show ¬ nI d ≤ 0 by rw [i_le, nI_toInt (by omega), z32]; omega), next9 q, get_in (by omega) (by decide), t1 d (by omega), get_in (by omega) (by decide), t2 B (by omega), get_in (by omega) (by decide), t1 B (by omega), get_in (by omega) (by decide), t2 d (by omega)]
        simp only [Option.bind_some, nI_mul]
        congr 1
        funext x8
        by_cases c : suS A B * wtS A d ≤ suS A d * wtS A B
        · rw [if_pos c, if_pos ((nI_lei p2 p1).mpr c)]
        · rw [if_neg c, if_neg (fun x => c ((nI_lei p2 p1).mp x))]
      rw [go]
      rcases isLow9 t3 hok (B := d) (R := R) (by omega) hR with ⟨l1, l2⟩ | ⟨l1, l2⟩
      · rw [l1, Option.bind_some, if_neg (by decide)]
        by_cases c : suS A B * wtS A d ≤ suS A d * wtS A B
        · rw [if_pos c]
          refine Or.inl ⟨_, _, rfl, lt, B, rfl, rfl, subn d, sB, B0, lB, by omega, fun S h1 h2 h3 h4 => ?_⟩
          rcases cont S h1 h4 with w | w
          · rw [w]; exact ⟨c, fun _ => dB⟩
          · exact all S h1 h2 h3 w
        · rw [if_neg c]
          refine Or.inl ⟨_, _, rfl, lt, d, rfl, rfl, subn d, sd, by omega, l2, by omega, fun S h1 h2 h3 h4 => ?_⟩
          rcases cont S h1 h4 with w | w
          · rw [w]; exact ⟨Nat.le_refl _, fun _ => Nat.le_refl _⟩
          · have := nl_new (wpos S h1 h2) (show suS A d * wtS A B < suS A B * wtS A d by omega) (all S h1 h2 h3 w).1
            exact ⟨by omega, fun e => absurd e (by omega)⟩
      · rw [l1, Option.bind_some, if_pos rfl]
        refine Or.inl ⟨_, _, rfl, lt, B, rfl, rfl, subn d, sB, B0, lB, by omega, fun S h1 h2 h3 h4 => ?_⟩
        rcases cont S h1 h4 with w | w
        · rw [w] at h3; exact absurd h3 l2
        · exact all S h1 h2 h3 w) ⟨R, rfl, rfl, fun i hi => hi, fun i hi => hi, h0, low_self A W R, Nat.le_refl _, fun S h1 _ _ h4 => by have := sub_le h1; omega⟩ (by omega)
  refine ⟨B, ?_, q2⟩
  unfold m_X0_leastByMean
  rw [e, Option.bind_some, q1]
/-- a fraction of two numbers in least terms -/
theorem red_nat (a : Nat) {b : Nat} (hb : 0 < b) : (mkRat (a : Int) b).num = ((a / Nat.gcd a b : Nat) : Int) ∧ (mkRat (a : Int) b).den = b / Nat.gcd a b ∧ 1 ≤ b / Nat.gcd a b ∧ Nat.Coprime (a / Nat.gcd a b) (b / Nat.gcd a b) ∧ a / Nat.gcd a b * b = a * (b / Nat.gcd a b) := by
  obtain ⟨e1, e2⟩ := mkRat_parts (x := (a : Int)) hb
  have g0 : 0 < Nat.gcd a b := Nat.gcd_pos_of_pos_right _ hb
  rw [Int.natAbs_natCast] at e1 e2
  refine ⟨by rw [e1, Int.natCast_ediv], e2, Nat.div_pos (Nat.gcd_le_right _ hb) g0, Nat.coprime_div_gcd_div_gcd g0, ?_⟩
  obtain ⟨x, hx⟩ := Nat.gcd_dvd_left a b
  obtain ⟨y, hy⟩ := Nat.gcd_dvd_right a b
  generalize Nat.gcd a b = g at *
  rw [hx, hy, Nat.mul_div_cancel_left _ g0, Nat.mul_div_cancel_left _ g0, Nat.mul_assoc, Nat.mul_left_comm]
theorem rng_nat {k : Nat} (h : k < 4611686018427387904) : rng (k : Int) := ⟨by omega, by omega⟩
theorem dif_lt {R B n : Nat} (h : R < 2 ^ n) : dif R B < 2 ^ n := Nat.lt_of_le_of_lt (dif_le R B) h
theorem pcn_dif {R B : Nat} (hR : R < 128) (h : sub B R) (h0 : B ≠ 0) : pcn (dif R B) < pcn R := by
  obtain ⟨i, hi⟩ := bit_of_ne0 h0
  refine sm_lt (i := i) (fun j _ => ?_) (bit_lt (n := 7) hR (h i hi)) ?_
  · by_cases c : (dif R B).testBit j = true
    · rw [if_pos c, if_pos (dif_bitp.mp c).1]; exact Nat.le_refl _
    · rw [if_neg c]; exact Nat.zero_le _
  · rw [if_neg (fun k => (dif_bitp.mp k).2 hi), if_pos (h i hi)]
    exact Nat.zero_lt_one
theorem pcn_0 : ∀ x, x < 128 → pcn x = 0 → x = 0 := by
  intro x hx h
  refine Nat.eq_of_testBit_eq fun i => ?_
  rw [Nat.zero_testBit]
  cases c : x.testBit i with
  | false => rfl
  | true =>
    have := sm_eq0 (g := fun i => if x.testBit i = true then 1 else 0) h i (bit_lt (n := 7) hx c)
    simp only [c, if_true] at this
    cases this
theorem allPapers8 {s : T8} {A : Sh} (h : SV8 s A) (hok : okS A) : m_X8_allPapers s = some (nI (allS A)) := by
  have n7 := hok.1.1
  unfold m_X8_allPapers
  rw [h.2.2.2, nI_shl1 _ (by omega), nI_pred_of (Nat.two_pow_pos _)]
theorem squares9 {s : T0} {A : Sh} {W : Nat} (hok : okS A) (hv : SV8 (p0_values s) A) (t1 : Eqn (p0_sums s) (suS A) (2 ^ hN A)) (t2 : Eqn (p0_weighs s) (wtS A) (2 ^ hN A)) (t3 : SD (p0_downs s) A W (2 ^ hN A)) : ∃ r, m_X0_layLeastSquares s = some r ∧ ∃ u d, Sp0 A W u d ∧ Eqn r.1 u (hN A) ∧ Eqn r.2.1 d (hN A) := by
  have n7 := hok.1.1
  have p7 := pow_le7 n7
  have al := allS_lt A
  obtain ⟨r, e, u, d, q1, q2, q3⟩ := lp_invf (f := fun z : Int32 × Int32 × (Nat → Int32) × (Nat → Int32) × Int64 × Int64 => m_X0_layLeastSquares_l10 s z.1 z.2.1 z.2.2.1 z.2.2.2.1 z.2.2.2.2.1 z.2.2.2.2.2) (I := fun c z => ∃ k R u d, k ≤ 7 ∧ c = 7 - k ∧ z.1 = nI R ∧ z.2.1 = nI k ∧ R < 2 ^ hN A ∧ pcn R + k ≤ 7 ∧ GI A W R u d ∧ (∀ p, p < hN A → ¬ R.testBit p = true → z.2.2.1 p = nI (u p) ∧ z.2.2.2.1 p = nI (d p))) (Q := fun r => ∃ u d, Sp0 A W u d ∧ Eqn r.1 u (hN A) ∧ Eqn r.2.1 d (hN A)) (d := 7) (s := (nI (allS A), (0 : Int32), p8_aboves (p0_values s), p8_belows (p0_values s), p1_above (p8_reduced (p0_values s)), p1_below (p8_reduced (p0_values s)))) (by
    rintro c ⟨z1, z2, fa, fb, za, zb⟩ ⟨k, R, u, d, hk, hc, rfl, rfl, hR, hp, g, all⟩
    simp only at all ⊢
    by_cases c0 : R = 0
    · have ok : ∀ p, ¬ R.testBit p = true := fun p => by rw [c0, Nat.zero_testBit]; decide
      refine Or.inr ⟨(fa, fb, za, zb), ?_, u, d, GI_end (by rw [c0] at g; exact g), fun p hp => (all p hp (ok p)).1, fun p hp => (all p hp (ok p)).2⟩
      unfold m_X0_layLeastSquares_l10
      rw [c0]
      by_cases c7 : (7 : Int32) ≤ nI k
      · rw [if_pos c7]
      · rw [if_neg c7, if_pos (show nI 0 = 0 from rfl)]
    · have k7 : k < 7 := by
        rcases Nat.lt_or_ge k 7 with w | w
        · exact w
        · exact absurd (pcn_0 R (by omega) (by omega)) c0
      have n0 : ¬ nI R = 0 := fun x => c0 (nI_inj (b := 0) (by omega) (by decide) x)
      obtain ⟨B, b1, b2⟩ := byMean9 (s := u0_values (u8_reduced (u1_below zb (u1_above za (p8_reduced (p0_values s)))) (u8_belows fb (u8_aboves fa (p0_values s)))) s) (W := W) hok t1 t2 t3 hR c0
      have lB := sub_le b2.1
      obtain ⟨i0, hi0⟩ := bit_of_ne0 b2.2.1
      have wB : 0 < wtS A B := wtS_pos hok (bit_lt hR (b2.1 i0 hi0)) hi0
      have w1 := wtS_le hok B
      have w2 := suS_le hok B
      obtain ⟨m1, m2, m3, m4, m5⟩ := red_nat (suS A B) wB
      obtain ⟨fa', fb', y1, y2⟩ := lay8 (s := u8_reduced (u1_below zb (u1_above za (p8_reduced (p0_values s)))) (u8_belows fb (u8_aboves fa (p0_values s)))) n7 hv.2.2.2 (x := B) (by omega) (a := (suS A B : Int)) (b := wtS A B) (rng_nat (by omega)) wB (rng_nat (by omega))
      refine Or.inl ⟨7 - (k + 1), (nI (dif R B), nI (k + 1), fa', fb', J (mkRat (suS A B : Int) (wtS A B)).num, J ((mkRat (suS A B : Int) (wtS A B)).den : Int)), ?_, by omega, k + 1, dif R B, fun p => if B.testBit p = true then suS A B / Nat.gcd (suS A B) (wtS A B) else u p, fun p => if B.testBit p = true then wtS A B / Nat.gcd (suS A B) (wtS A B) else d p, by omega, rfl, rfl, rfl, dif_lt hR, by have := pcn_dif (by omega) b2.1 b2.2.1; omega, GI_step hok g b2 (fun p hp h => ?_) (fun p hp h => ?_), fun p hp h => ?_⟩
      · unfold m_X0_layLeastSquares_l10
        rw [if_neg (show ¬ (7 : Int32) ≤ nI k from nI_ge (b := 7) k7 (by omega)), if_neg n0, b1, Option.bind_some, get_in (by omega) (by decide), Option.bind_some, t1 B (by omega), get_in (by omega) (by decide), Option.bind_some, t2 B (by omega), nI_64 (by omega), nI_64 (by omega), y1, Option.bind_some, nI_dif, nI_1]
      · have nb : ¬ B.testBit p = true := fun x => h (b2.1 p x)
        exact ⟨if_neg nb, if_neg nb⟩
      · simp only [if_pos h]
        exact ⟨m3, m4, m5⟩
      · show fa' p = nI (if B.testBit p = true then suS A B / Nat.gcd (suS A B) (wtS A B) else u p) ∧ fb' p = nI (if B.testBit p = true then wtS A B / Nat.gcd (suS A B) (wtS A B) else d p)
        by_cases cb : B.testBit p = true
        · rw [if_pos cb, if_pos cb, ((y2 p hp).1 cb).1, ((y2 p hp).1 cb).2, m1, m2, zI_nat]
          exact ⟨rfl, rfl⟩
        · rw [if_neg cb, if_neg cb, ((y2 p hp).2 cb).1, ((y2 p hp).2 cb).2]
          have nr : ¬ R.testBit p = true := fun x => h (dif_bitp.mpr ⟨x, cb⟩)
          exact all p hp nr) ⟨0, allS A, fun _ => 0, fun _ => 1, by omega, rfl, rfl, rfl, al, by have := pcn_le (allS A) (by omega); omega, GI_start A W _ _, fun p hp h => absurd (allS_bit.mpr hp) h⟩ (by omega)
  refine ⟨(r.1, r.2.1, r.2.2.1, r.2.2.2), ?_, u, d, q1, q2, q3⟩
  unfold m_X0_layLeastSquares
  rw [allPapers8 hv hok, Option.bind_some, e, Option.bind_some]
