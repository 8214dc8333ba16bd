/-! BY ABSOLUTE: the least one mark by mark, told by thresholds -/
theorem sub_zero (R : Nat) : sub 0 R := fun i hi => by
  rw [Nat.zero_testBit] at hi
  cases hi
theorem fin_min : ∀ (N : Nat) (P : Nat → Prop) (k : Nat → Int), (∃ x, x < N ∧ P x) → ∃ x, x < N ∧ P x ∧ ∀ y, y < N → P y → k x ≤ k y := by
  intro N
  induction N with
  | zero => intro P k ⟨x, hx, _⟩; omega
  | succ N ih =>
    intro P k ⟨x, hx, px⟩
    by_cases c : ∃ x, x < N ∧ P x
    · obtain ⟨a, ha, pa, all⟩ := ih P k c
      by_cases c2 : P N ∧ k N < k a
      · refine ⟨N, by omega, c2.1, fun y hy py => ?_⟩
        rcases Nat.lt_or_ge y N with q | q
        · have := all y q py
          omega
        · rw [show y = N by omega]
          exact Int.le_refl _
      · refine ⟨a, by omega, pa, fun y hy py => ?_⟩
        rcases Nat.lt_or_ge y N with q | q
        · exact all y q py
        · rw [show y = N by omega] at py ⊢
          have : ¬ k N < k a := fun q => c2 ⟨py, q⟩
          omega
    · have e : x = N := by
        rcases Nat.lt_or_ge x N with q | q
        · exact absurd ⟨x, q, px⟩ c
        · omega
      rw [e] at px
      refine ⟨N, by omega, px, fun y hy py => ?_⟩
      rcases Nat.lt_or_ge y N with q | q
      · exact absurd ⟨y, q, py⟩ c
      · rw [show y = N by omega]
        exact Int.le_refl _
theorem lt128 {A : Sh} (hok : okS A) {S : Nat} (h : S < 2 ^ hN A) : S < 128 := Nat.lt_of_lt_of_le h (pow_le7 hok.1.1)
theorem isT_ex {A : Sh} (hok : okS A) (W : Nat) {R : Nat} (hR : R < 2 ^ hN A) (f : Nat → Int) : ∃ T, isT A W R f T := by
  obtain ⟨T, hT, ⟨t1, t2⟩, all⟩ := fin_min (2 ^ hN A) (fun S => sub S R ∧ low A W S R) (fun S => 16 * sI f S (hN A) - (pcn S : Int)) ⟨0, Nat.two_pow_pos _, sub_zero R, low_zero A W R⟩
  have p7 := pcn_le T (lt128 hok hT)
  have le : ∀ S, sub S R → low A W S R → sI f T (hN A) ≤ sI f S (hN A) := by
    intro S h1 h2
    have := all S (sub_lt h1 hR) ⟨h1, h2⟩
    omega
  refine ⟨T, t1, t2, le, fun S h1 h2 h3 => ?_⟩
  have e1 := sI_or f S T (hN A)
  have e2 := le (S ||| T) (sub_or h1 t1) (low_or h2 t2)
  have e3 := le (S &&& T) (sub_and h1) (low_and h2 t2)
  have e4 := all (S ||| T) (sub_lt (sub_or h1 t1) hR) ⟨sub_or h1 t1, low_or h2 t2⟩
  have e5 := pcn_sub (S := T) (T := S ||| T) (lt128 hok (sub_lt (sub_or h1 t1) hR)) (fun i hi => or_bit.mpr (Or.inr hi)) (by omega)
  exact fun i hi => e5 i (or_bit.mpr (Or.inl hi))
def gv (A : Sh) (v p : Nat) : Int := if mkA A p < v then -(wtA A p : Int) else (wtA A p : Int)
theorem gv_le (A : Sh) {v v' : Nat} (h : v ≤ v') (p : Nat) : gv A v' p ≤ gv A v p := by
  unfold gv
  by_cases c : mkA A p < v
  · rw [if_pos c, if_pos (by omega)]; exact Int.le_refl _
  · rw [if_neg c]
    split <;> omega
theorem bs_congr {P Q : Nat → Bool} {n : Nat} (h : ∀ i, i < n → P i = Q i) : bs P n = bs Q n := by
  induction n with
  | zero => rfl
  | succ n ih => rw [bs, bs, ih (fun i hi => h i (by omega)), h n (by omega)]
def GA (A : Sh) (W R v : Nat) (u : Nat → Nat) : Prop := sub R (allS A) ∧ (∀ p, p < hN A → ¬ R.testBit p = true → u p < v) ∧ ∀ v0, v0 ≤ v → isT A W (allS A) (gv A v0) (bs (fun p => !R.testBit p && decide (u p < v0)) (hN A))
theorem GA_set {A : Sh} {W R v : Nat} {u : Nat → Nat} (g : GA A W R v u) : isT A W (allS A) (gv A v) (dif (allS A) R) := by
  have := g.2.2 v (Nat.le_refl _)
  have e : bs (fun p => !R.testBit p && decide (u p < v)) (hN A) = dif (allS A) R := sub_eq (fun i hi => by
    rw [bs_bit, Bool.and_eq_true, decide_eq_true_iff, Bool.and_eq_true, Bool.not_eq_true'] at hi
    exact dif_bitp.mpr ⟨allS_bit.mpr hi.1, by rw [hi.2.1]; decide⟩) (fun i hi => by
    rw [dif_bitp, allS_bit] at hi
    rw [bs_bit, Bool.and_eq_true, decide_eq_true_iff, Bool.and_eq_true, Bool.not_eq_true', decide_eq_true_iff]
    exact ⟨hi.1, by simpa using hi.2, g.2.1 i hi.1 hi.2⟩)
  rw [e] at this
  exact this
theorem isT_zero {A : Sh} (hok : okS A) {W R : Nat} (hR : sub R (allS A)) {f : Nat → Int} (hf : ∀ p, p < hN A → 0 < f p) : isT A W R f 0 := by
  refine ⟨sub_zero R, low_zero A W R, fun S _ _ => ?_, fun S h1 _ h3 i hi => ?_⟩
  · rw [sI_zero]
    exact sI_nonneg (fun i hi _ => Int.le_of_lt (hf i hi))
  · have hi2 := allS_bit.mp (hR i (h1 i hi))
    have := sI_pos (f := f) (S := S) (n := hN A) (i := i) (fun i hi _ => Int.le_of_lt (hf i hi)) hi2 hi (hf i hi2)
    rw [sI_zero] at h3
    omega
theorem GA_zero {A : Sh} (hok : okS A) (W : Nat) (u : Nat → Nat) : GA A W (allS A) 0 u := by
  refine ⟨fun i hi => hi, fun p hp h => absurd (allS_bit.mpr hp) h, fun v0 hv => ?_⟩
  have e : bs (fun p => !(allS A).testBit p && decide (u p < v0)) (hN A) = 0 := sub_eq (fun i hi => by
    rw [bs_bit, Bool.and_eq_true, decide_eq_true_iff, Bool.and_eq_true, Bool.not_eq_true'] at hi
    have := allS_bit.mpr hi.1
    rw [hi.2.1] at this
    cases this) (fun i hi => by rw [Nat.zero_testBit] at hi; cases hi)
  rw [e]
  refine isT_zero hok (fun i hi => hi) (fun p hp => ?_)
  have := wtA_in hok hp
  unfold gv
  rw [if_neg (by omega)]
  omega
theorem GA_skip {A : Sh} {W R v : Nat} {u : Nat → Nat} (g : GA A W R v u) (h : ∀ p, p < hN A → mkA A p ≠ v) : GA A W R (v + 1) u := by
  refine ⟨g.1, fun p hp hr => Nat.lt_succ_of_lt (g.2.1 p hp hr), fun v0 hv => ?_⟩
  rcases Nat.lt_or_ge v v0 with q | q
  · have e : v0 = v + 1 := by omega
    rw [e]
    have e2 : bs (fun p => !R.testBit p && decide (u p < v + 1)) (hN A) = bs (fun p => !R.testBit p && decide (u p < v)) (hN A) := bs_congr (fun i hi => by
      cases c : R.testBit i with
      | true => rfl
      | false =>
        have := g.2.1 i hi (by rw [c]; decide)
        rw [decide_eq_true (show u i < v + 1 by omega), decide_eq_true this])
    rw [e2]
    refine isT_congr (g.2.2 v (Nat.le_refl _)) (fun i hi => ?_)
    have := h i hi
    unfold gv
    by_cases c : mkA A i < v
    · rw [if_pos c, if_pos (by omega)]
    · rw [if_neg c, if_neg (by omega)]
  · exact g.2.2 v0 q
theorem GA_full {A : Sh} {W R v S : Nat} {u u' : Nat → Nat} (g : GA A W R v u) (hS : isT A W (allS A) (gv A (v + 1)) S) (k1 : ∀ p, p < hN A → ¬ R.testBit p = true → u' p = u p) (k2 : ∀ p, p < hN A → R.testBit p = true → S.testBit p = true → u' p = v) : GA A W (dif R S) (v + 1) u' := by
  have hD := isT_mono hS (GA_set g) (fun i _ => gv_le A (Nat.le_succ v) i)
  have out : ∀ p, p < hN A → ¬ (dif R S).testBit p = true → S.testBit p = true := by
    intro p hp h
    refine Classical.byContradiction fun c => h ?_
    refine dif_bitp.mpr ⟨Classical.byContradiction fun c2 => c (hD p (dif_bitp.mpr ⟨allS_bit.mpr hp, c2⟩)), c⟩
  have less : ∀ p, p < hN A → ¬ (dif R S).testBit p = true → u' p < v + 1 := by
    intro p hp h
    by_cases c : R.testBit p = true
    · rw [k2 p hp c (out p hp h)]; omega
    · rw [k1 p hp c]
      have := g.2.1 p hp c
      omega
  refine ⟨fun i hi => g.1 i (dif_bitp.mp hi).1, less, fun v0 hv => ?_⟩
  rcases Nat.lt_or_ge v v0 with q | q
  · have e : v0 = v + 1 := by omega
    rw [e]
    have e2 : bs (fun p => !(dif R S).testBit p && decide (u' p < v + 1)) (hN A) = S := sub_eq (fun i hi => by
      rw [bs_bit, Bool.and_eq_true, decide_eq_true_iff, Bool.and_eq_true, Bool.not_eq_true'] at hi
      exact out i hi.1 (by rw [hi.2.1]; decide)) (fun i hi => by
      have hn := allS_bit.mp (hS.1 i hi)
      have nd : ¬ (dif R S).testBit i = true := fun k => (dif_bitp.mp k).2 hi
      rw [bs_bit, Bool.and_eq_true, decide_eq_true_iff, Bool.and_eq_true, Bool.not_eq_true', decide_eq_true_iff]
      exact ⟨hn, by simpa using nd, less i hn nd⟩)
    rw [e2]
    exact hS
  · have e2 : bs (fun p => !(dif R S).testBit p && decide (u' p < v0)) (hN A) = bs (fun p => !R.testBit p && decide (u p < v0)) (hN A) := bs_congr (fun i hi => by
      cases c : R.testBit i with
      | false =>
        have nd : (dif R S).testBit i = false := by rw [dif_bit, c, Bool.false_and]
        rw [nd, k1 i hi (by rw [c]; decide)]
      | true =>
        cases c2 : S.testBit i with
        | false =>
          have nd : (dif R S).testBit i = true := by rw [dif_bit, c, c2]; rfl
          rw [nd]; rfl
        | true =>
          rw [k2 i hi c c2, decide_eq_false (show ¬ v < v0 by omega), Bool.and_false, Bool.not_true, Bool.false_and])
    rw [e2]
    exact g.2.2 v0 q
/-- what is least in the rest, with what was least before, is least of all -/
theorem isT_join {A : Sh} {W R B : Nat} {f g : Nat → Int} (hR : sub R (allS A)) (hD : isT A W (allS A) g (dif (allS A) R)) (hf : ∀ i, i < hN A → f i ≤ g i) (hB : isT A W R f B) : isT A W (allS A) f (dif (allS A) (dif R B)) := by
  have out : ∀ p, (dif (allS A) (dif R B)).testBit p = true ↔ (dif (allS A) R).testBit p = true ∨ B.testBit p = true := by
    intro p
    have := hB.1 p
    have k := hR p
    simp only [dif_bitp]
    by_cases c1 : (allS A).testBit p = true <;> by_cases c : R.testBit p = true <;> by_cases c2 : B.testBit p = true <;> simp [c, c1, c2] at this k ⊢
  have dj : ∀ i, i < hN A → ((dif (allS A) (dif R B)).testBit i = true ↔ (dif (allS A) R).testBit i = true ∨ B.testBit i = true) ∧ ¬ ((dif (allS A) R).testBit i = true ∧ B.testBit i = true) := fun i _ => ⟨out i, fun k => (dif_bitp.mp k.1).2 (hB.1 i k.2)⟩
  have lo : low A W (dif (allS A) (dif R B)) (allS A) := by
    intro p q hp hu hq
    rw [out] at hp ⊢
    rcases hp with hp | hp
    · exact Or.inl (hD.2.1 p q hp hu hq)
    · by_cases c : R.testBit q = true
      · exact Or.inr (hB.2.1 p q hp hu c)
      · exact Or.inl (dif_bitp.mpr ⟨hq, c⟩)
  have s1 := sI_two (f := f) dj
  have step : ∀ S, sub S (allS A) → low A W S (allS A) → sI f (dif (allS A) R) (hN A) + sI f (S &&& R) (hN A) ≤ sI f S (hN A) ∧ sI f B (hN A) ≤ sI f (S &&& R) (hN A) := by
    intro S h1 h2
    have a1 := sI_dif f S R (hN A)
    -- what of D is not in S costs nothing
    have a2 := sI_dif f (dif (allS A) R) S (hN A)
    have a3 := sI_dif g (dif (allS A) R) S (hN A)
    have a4 := sI_mono (f := f) (g := g) (S := dif (dif (allS A) R) S) (n := hN A) (fun i hi _ => hf i hi)
    have a5 := hD.2.2.1 (dif (allS A) R &&& S) (sub_and (fun i hi => (dif_bitp.mp hi).1)) (low_and hD.2.1 h2)
    have a6 : sI f (dif S R) (hN A) = sI f (dif (allS A) R &&& S) (hN A) := sI_congr (fun i hi => ⟨by
      have := h1 i
      simp only [and_bit, dif_bitp]
      by_cases c1 : (allS A).testBit i = true <;> by_cases c : R.testBit i = true <;> by_cases c2 : S.testBit i = true <;> simp [c, c1, c2] at this ⊢, fun _ => rfl⟩)
    refine ⟨by omega, hB.2.2.1 (S &&& R) (fun i hi => (and_bit.mp hi).2) (fun p q hp hu hq => ?_)⟩
    rw [and_bit] at hp ⊢
    exact ⟨h2 p q hp.1 hu (hR q hq), hq⟩
  refine ⟨fun i hi => (dif_bitp.mp hi).1, lo, fun S h1 h2 => ?_, fun S h1 h2 h3 => ?_⟩
  · have := step S h1 h2
    omega
  · have b := step S h1 h2
    have c := hB.2.2.2 (S &&& R) (fun i hi => (and_bit.mp hi).2) (fun p q hp hu hq => by
      rw [and_bit] at hp ⊢
      exact ⟨h2 p q hp.1 hu (hR q hq), hq⟩) (by omega)
    intro i hi
    rw [out]
    by_cases k : R.testBit i = true
    · exact Or.inr (c i (and_bit.mpr ⟨hi, k⟩))
    · exact Or.inl (dif_bitp.mpr ⟨h1 i hi, k⟩)
theorem GA_rest {A : Sh} {W R v B : Nat} {u u' : Nat → Nat} (g : GA A W R v u) (hB : isT A W R (gv A (v + 1)) B) (k1 : ∀ p, p < hN A → ¬ R.testBit p = true → u' p = u p) (k2 : ∀ p, p < hN A → B.testBit p = true → u' p = v) : GA A W (dif R B) (v + 1) u' := by
  have h := GA_full (u' := u') g (isT_join g.1 (GA_set g) (fun i _ => gv_le A (Nat.le_succ v) i) hB) k1 (fun p hp hr hs => k2 p hp (Classical.byContradiction fun c => (dif_bitp.mp hs).2 (dif_bitp.mpr ⟨hr, c⟩)))
  have e : dif R (dif (allS A) (dif R B)) = dif R B := Nat.eq_of_testBit_eq fun i => by
    have := g.1 i
    rw [dif_bit, dif_bit, dif_bit]
    cases c : R.testBit i <;> cases c2 : B.testBit i <;> cases c3 : (allS A).testBit i <;> simp [c, c3] at this ⊢
  rw [e] at h
  exact h
theorem GA_top {A : Sh} (hok : okS A) {W R v : Nat} {u : Nat → Nat} (g : GA A W R v u) (h : ∀ p, p < hN A → mkA A p < v) : R = 0 := by
  have hT := GA_set g
  refine Classical.byContradiction fun c => ?_
  obtain ⟨i, hi⟩ := bit_of_ne0 c
  have h1 := hT.2.2.1 (allS A) (fun i hi => hi) (low_self A W _)
  have h2 : sI (gv A v) (allS A) (hN A) = sI (gv A v) (dif (allS A) R) (hN A) + sI (gv A v) R (hN A) := sI_two (fun i hi => by
    have := allS_bit.mpr hi
    simp only [dif_bitp]
    by_cases c : R.testBit i = true <;> simp [c, this])
  have neg : ∀ p, p < hN A → gv A v p < 0 := fun p hp => by
    have := wtA_in hok hp
    unfold gv
    rw [if_pos (h p hp)]
    omega
  have h3 := sI_pos (f := fun p => -1 * gv A v p + 0 * 0) (S := R) (n := hN A) (i := i) (fun j hj _ => by have := neg j hj; omega) (allS_bit.mp (g.1 i hi)) hi (by have := neg i (allS_bit.mp (g.1 i hi)); omega)
  rw [sI_lin] at h3
  omega
def Sp1 (A : Sh) (W : Nat) (u : Nat → Nat) : Prop := (∀ p, p < hN A → u p < 119) ∧ ∀ v, v ≤ 119 → isT A W (allS A) (gv A v) (bs (fun p => decide (u p < v)) (hN A))
theorem GA_end {A : Sh} {W v : Nat} {u : Nat → Nat} (g : GA A W 0 v u) (hv : v ≤ 119) : Sp1 A W u := by
  have nz : ∀ p, ¬ (0 : Nat).testBit p = true := fun p => by rw [Nat.zero_testBit]; decide
  refine ⟨fun p hp => by have := g.2.1 p hp (nz p); omega, fun v0 h0 => ?_⟩
  rcases Nat.lt_or_ge v v0 with q | q
  · have hT := GA_set g
    have e2 : dif (allS A) 0 = allS A := Nat.eq_of_testBit_eq fun i => by
      rw [dif_bit, Nat.zero_testBit, Bool.not_false, Bool.and_true]
    have e : bs (fun p => decide (u p < v0)) (hN A) = allS A := sub_eq (fun i hi => by
      rw [bs_bit, Bool.and_eq_true, decide_eq_true_iff] at hi
      exact allS_bit.mpr hi.1) (fun i hi => by
      have hn := allS_bit.mp hi
      have := g.2.1 i hn (nz i)
      rw [bs_bit, Bool.and_eq_true, decide_eq_true_iff, decide_eq_true_iff]
      exact ⟨hn, by omega⟩)
    rw [e2] at hT
    rw [e]
    refine ⟨fun i hi => hi, low_self A W _, fun S h1 h2 => ?_, fun S h1 _ _ => h1⟩
    have a1 := sI_dif (gv A v0) (allS A) S (hN A)
    have a2 := sI_dif (gv A v) (allS A) S (hN A)
    have a3 := sI_mono (f := gv A v0) (g := gv A v) (S := dif (allS A) S) (n := hN A) (fun i hi _ => gv_le A (by omega) i)
    have a4 := hT.2.2.1 S h1 h2
    have e3 : allS A &&& S = S := sub_eq (fun i hi => (and_bit.mp hi).2) (fun i hi => and_bit.mpr ⟨h1 i hi, hi⟩)
    rw [e3] at a1 a2
    omega
  · have := g.2.2 v0 q
    have e : bs (fun p => !(0 : Nat).testBit p && decide (u p < v0)) (hN A) = bs (fun p => decide (u p < v0)) (hN A) := bs_congr (fun i _ => by rw [Nat.zero_testBit, Bool.not_false, Bool.true_and])
    rw [e] at this
    exact this
theorem Sp1_eq {A : Sh} {W : Nat} {u u' : Nat → Nat} (h : Sp1 A W u) (k : Sp1 A W u') : ∀ p, p < hN A → u p = u' p := by
  have half : ∀ {u u' : Nat → Nat}, Sp1 A W u → Sp1 A W u' → ∀ p, p < hN A → u' p ≤ u p := by
    intro u u' h k p hp
    have lt := h.1 p hp
    have e := isT_eq (h.2 (u p + 1) (by omega)) (k.2 (u p + 1) (by omega))
    have b1 : (bs (fun q => decide (u q < u p + 1)) (hN A)).testBit p = true := by
      rw [bs_bit, decide_eq_true hp, Bool.true_and, decide_eq_true_iff]
      omega
    rw [e, bs_bit, decide_eq_true hp, Bool.true_and, decide_eq_true_iff] at b1
    omega
  intro p hp
  have h1 := half h k p hp
  have h2 := half k h p hp
  omega
