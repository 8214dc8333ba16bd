/-! CHANGE by SQUARE: the multiple -/
theorem mkRat_same (a b : Int) {D : Nat} (h : 0 < D) : mkRat a D + mkRat b D = mkRat (a + b) D := by
  rw [Rat.mkRat_add_mkRat _ _ (by omega) (by omega), ← Int.add_mul, Rat.mkRat_mul_right (by omega)]
theorem sQ_two {f : Nat → Rat} {P Q S : Nat → Bool} : ∀ {n : Nat}, (∀ i, i < n → (S i = true ↔ P i = true ∨ Q i = true) ∧ ¬ (P i = true ∧ Q i = true)) → sQ f S n = sQ f P n + sQ f Q n := by
  intro n
  induction n with
  | zero => intro _; rw [sQ, sQ, sQ, Rat.add_zero]
  | succ n ih =>
    intro h
    rw [sQ, sQ, sQ, ih (fun i hi => h i (by omega))]
    obtain ⟨h1, h2⟩ := h n (by omega)
    by_cases c : P n = true
    · have c2 : ¬ Q n = true := fun k => h2 ⟨c, k⟩
      rw [if_pos c, if_neg c2, if_pos (h1.mpr (Or.inl c)), Rat.add_zero, Rat.add_assoc, Rat.add_comm _ (f n), ← Rat.add_assoc]
    · by_cases c2 : Q n = true
      · rw [if_neg c, if_pos c2, if_pos (h1.mpr (Or.inr c2)), Rat.add_zero, Rat.add_assoc]
      · rw [if_neg c, if_neg c2, if_neg (fun k => (h1.mp k).elim c c2), Rat.add_zero, Rat.add_zero, Rat.add_zero]
theorem sQ_common {f : Nat → Rat} {g : Nat → Int} {S D : Nat} (hD : 0 < D) : ∀ {n : Nat}, (∀ i, i < n → S.testBit i = true → f i = mkRat (g i) D) → sQ f (fun i => S.testBit i) n = mkRat (sI g S n) D := by
  intro n
  induction n with
  | zero =>
    intro _
    rw [sQ, sI, Rat.zero_mkRat]
  | succ n ih =>
    intro h
    rw [sQ, sI, ih (fun i hi => h i (by omega))]
    by_cases c : S.testBit n = true
    · rw [if_pos c, if_pos c, h n (by omega) c, mkRat_same _ _ hD]
    · rw [if_neg c, if_neg c, Rat.add_zero, Int.add_zero]
theorem den_mk (x : Int) {d : Nat} (hd : 0 < d) : (mkRat x d).den ∣ d := by
  rw [(mkRat_parts hd).2]
  exact Nat.div_dvd_of_dvd (Nat.gcd_dvd_right _ _)
theorem den_add {q : Rat} {K d : Nat} {x : Int} (h : q.den ∣ K) (hd : 0 < d) : (q + mkRat x d).den ∣ K * d := by
  have hq := q.den_pos
  have g0 : 0 < Nat.gcd q.den d := Nat.gcd_pos_of_pos_right _ hd
  have a0 : 0 < q.den / Nat.gcd q.den d := Nat.div_pos (Nat.gcd_le_left _ hq) g0
  rw [← sum_parts q x hd]
  refine Nat.dvd_trans (den_mk _ (Nat.mul_pos a0 hd)) (Nat.mul_dvd_mul ?_ (Nat.dvd_refl d))
  exact Nat.dvd_trans (Nat.div_dvd_of_dvd (Nat.gcd_dvd_left _ _)) h
theorem lev_K {A : Sh} (hok : okS A) {u d : Nat → Nat} (hd : ∀ p, p < hN A → 1 ≤ d p ∧ Nat.Coprime (u p) (d p)) (lv : Lv A u d) : ∀ (m R : Nat), pcn R ≤ m → sub R (allS A) → closed A u d R → ∃ K, 0 < K ∧ K ≤ 6 ^ pcn R ∧ (∀ p, R.testBit p = true → d p ∣ K) ∧ (sQ (tQ A 0 u d) (fun i => R.testBit i) (hN A)).den ∣ K := by
  have none : ∃ K, 0 < K ∧ K ≤ 6 ^ pcn 0 ∧ (∀ p, (0 : Nat).testBit p = true → d p ∣ K) ∧ (sQ (tQ A 0 u d) (fun i => (0 : Nat).testBit i) (hN A)).den ∣ K := by
    refine ⟨1, by decide, Nat.pow_pos (by decide), fun p hp => absurd hp (by rw [Nat.zero_testBit]; decide), ?_⟩
    rw [sQ_congr (Q := fun _ => false) (fun i _ => Nat.zero_testBit i), sQ_none]
    exact Nat.dvd_refl 1
  intro m
  induction m with
  | zero =>
    intro R hm hR hc
    rw [pcn_0 R (lt128 hok (lt_of_sub hR)) (by omega)]
    exact none
  | succ m ih =>
    intro R hm hR hc
    by_cases c0 : R = 0
    · rw [c0]; exact none
    · obtain ⟨p, hp⟩ := bit_of_ne0 c0
      have hn := allS_bit.mp (hR p hp)
      have R7 := lt128 hok (lt_of_sub hR)
      have sB : sub (lev A u d p) R := fun q hq => hc p q hp hq
      have B0 : lev A u d p ≠ 0 := fun e => by
        have : (lev A u d p).testBit p = true := lev_bit.mpr ⟨hn, rfl, rfl⟩
        rw [e, Nat.zero_testBit] at this
        cases this
      have pl := pcn_dif R7 sB B0
      have two : ∀ i, (R.testBit i = true ↔ (dif R (lev A u d p)).testBit i = true ∨ (lev A u d p).testBit i = true) ∧ ¬ ((dif R (lev A u d p)).testBit i = true ∧ (lev A u d p).testBit i = true) := by
        intro i
        have := sB i
        rw [dif_bitp]
        by_cases k1 : R.testBit i = true <;> by_cases k2 : (lev A u d p).testBit i = true <;> simp [k1, k2] at this ⊢
      have ps := pcn_two (S := dif R (lev A u d p)) (T := lev A u d p) (U := R) (fun i _ => two i)
      obtain ⟨K, k0, k1, k2, k3⟩ := ih (dif R (lev A u d p)) (by omega) (fun i hi => hR i (dif_bitp.mp hi).1) (fun a b ha hb => by
        rw [dif_bitp] at ha ⊢
        refine ⟨hc a b ha.1 hb, fun k => ha.2 ?_⟩
        obtain ⟨_, x1, x2⟩ := lev_bit.mp hb
        obtain ⟨_, y1, y2⟩ := lev_bit.mp k
        exact lev_bit.mpr ⟨allS_bit.mp (hR a ha.1), by rw [← x1, y1], by rw [← x2, y2]⟩)
      obtain ⟨d1, d2⟩ := hd p hn
      have lm := lev_mul hok hd lv hn
      obtain ⟨z, hz⟩ := lev_sum (lv p hn)
      have sB2 : sQ (tQ A 0 u d) (fun i => (lev A u d p).testBit i) (hN A) = mkRat z (d p) := by
        rw [sQ_common (g := fun q => ((wtA A q * byN A u d q * byN A u d q : Nat) : Int)) (D := d p * d p) (Nat.mul_pos d1 d1) (fun i hi h => by
          obtain ⟨_, _, e2⟩ := lev_bit.mp h
          unfold tQ tN tD
          rw [if_pos rfl, if_pos rfl, e2]), hz, Rat.mkRat_mul_left (by omega)]
      refine ⟨K * d p, Nat.mul_pos k0 d1, ?_, fun q hq => ?_, ?_⟩
      · rw [ps, Nat.pow_add]
        exact Nat.mul_le_mul k1 lm
      · rcases (two q).1.mp hq with k | k
        · exact Nat.dvd_trans (k2 q k) (Nat.dvd_mul_right _ _)
        · rw [(lev_bit.mp k).2.2]
          exact Nat.dvd_mul_left _ _
      · rw [sQ_two (P := fun i => (dif R (lev A u d p)).testBit i) (Q := fun i => (lev A u d p).testBit i) (fun i _ => two i), sB2]
        exact den_add k3 d1
/-- the whole change, as a fraction -/
def chg (A : Sh) (l : Nat) (u d : Nat → Nat) : Rat := sQ (tQ A l u d) (fun _ => true) (hN A)
/-- the multiple of all lines, and of the whole change's -/
theorem chg_K {A : Sh} (hok : okS A) {l W : Nat} (hl : l < 2) : ∃ K, 0 < K ∧ K ≤ 279936 ∧ (∀ p, p < hN A → tD l (vD A l W) p ∣ K * K) ∧ (chg A l (vU A l W) (vD A l W)).den ∣ K := by
  have v := vQ_val hok (show l < 3 by omega) W
  match l, hl with
  | 0, _ =>
    have sp : Sp0 A W (vU A 0 W) (vD A 0 W) := by
      rcases v.1 with ⟨_, h⟩ | ⟨h, _⟩ | ⟨h, _⟩
      · exact h
      · cases h
      · cases h
    have al := allS_lt A
    have p7 := pcn_le (allS A) (lt128 hok al)
    obtain ⟨K, k0, k1, k2, k3⟩ := lev_K hok sp.1 (v.2 rfl) 7 (allS A) p7 (fun i hi => hi) (fun p q _ hq => allS_bit.mpr (lev_bit.mp hq).1)
    have le : 6 ^ pcn (allS A) ≤ 6 ^ 7 := Nat.pow_le_pow_right (by decide) p7
    refine ⟨K, k0, by omega, fun p hp => ?_, ?_⟩
    · have := k2 p (allS_bit.mpr hp)
      exact Nat.mul_dvd_mul this this
    · unfold chg
      rw [sQ_congr (Q := fun i => (allS A).testBit i) (fun i hi => (allS_bit.mpr hi).symm)]
      exact k3
  | 1, _ =>
    have dd : ∀ p, p < hN A → vD A 1 W p = 1 := by
      rcases v.1 with ⟨h, _⟩ | ⟨_, _, h⟩ | ⟨h, _⟩
      · cases h
      · exact h
      · cases h
    refine ⟨1, by decide, by decide, fun p hp => ?_, ?_⟩
    · show (if 1 = 0 then _ else vD A 1 W p) ∣ 1
      rw [if_neg (by decide), dd p hp]
      exact Nat.dvd_refl 1
    · have : ∀ k, k ≤ hN A → (sQ (tQ A 1 (vU A 1 W) (vD A 1 W)) (fun _ => true) k).den ∣ 1 := by
        intro k
        induction k with
        | zero => intro _; exact Nat.dvd_refl 1
        | succ k ih =>
          intro hk
          have t : tQ A 1 (vU A 1 W) (vD A 1 W) k = mkRat (tN A 1 (vU A 1 W) (vD A 1 W) k : Int) 1 := by
            unfold tQ tD
            rw [if_neg (by decide), dd k (by omega)]
          rw [sQ, if_pos rfl, t]
          exact den_add (K := 1) (d := 1) (ih (by omega)) (by decide)
      exact this (hN A) (Nat.le_refl _)
