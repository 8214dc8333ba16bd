/-! CHANGE in THE LINE by SQUARE: all of it; where ties are free or together, over what it lies -/
def iv (A : Sh) (a e p : Nat) : Bool := decide (a ≤ hP A p) && decide (hP A p < e)
theorem iv_iff {A : Sh} {a e p : Nat} : iv A a e p = true ↔ a ≤ hP A p ∧ hP A p < e := by
  unfold iv
  rw [Bool.and_eq_true, decide_eq_true_eq, decide_eq_true_eq]
theorem iv_step {A : Sh} {a e : Nat} (h : a ≤ e) (f : Nat → Rat) : sQ f (iv A a (e + 1)) (hN A) = sQ f (iv A a e) (hN A) + sQ f (fun p => (ofPl A e).testBit p) (hN A) := sQ_two (fun i hi => by
  rw [iv_iff, iv_iff, ofPl_bit hi]
  omega)
theorem iv_none (A : Sh) (a : Nat) (f : Nat → Rat) : sQ f (iv A a a) (hN A) = 0 := by
  rw [sQ_congr (Q := fun _ => false) (fun i _ => by
    have : ¬ iv A a a i = true := fun h => by have := iv_iff.mp h; omega
    simpa using this), sQ_none]
theorem pl_u1 {A : Sh} (hok : okS A) (t : hT A = 2) (e : Nat) : sQ (u1Q A) (fun p => (ofPl A e).testBit p) (hN A) = ((suS A (ofPl A e) : Int) : Rat) := by
  rw [← MS_mul hok, ← sQ_wt, ← sQ_mul]
  refine sQ_fun (fun p hp hb => ?_)
  have := (ofPl_bit hp).mp hb
  unfold u1Q spQ wQ plc
  rw [if_pos t, this, Rat.mul_comm]
theorem pl_u2 {A : Sh} (hok : okS A) (t : hT A = 2) (e : Nat) : sQ (u2Q A) (fun p => (ofPl A e).testBit p) (hN A) = MS A (ofPl A e) * ((suS A (ofPl A e) : Int) : Rat) := by
  rw [← pl_u1 hok t e, ← sQ_mul]
  refine sQ_fun (fun p hp hb => ?_)
  have := (ofPl_bit hp).mp hb
  unfold u1Q u2Q spQ wQ plc
  rw [if_pos t, this]
  generalize MS A (ofPl A e) = x
  generalize ((wtA A p : Int) : Rat) = w
  grind
def wmQ (A : Sh) (p : Nat) : Rat := (((mkA A p * wtA A p : Nat) : Int) : Rat)
theorem iv_u1 {A : Sh} (hok : okS A) (t : hT A = 2) {a : Nat} : ∀ {e}, a ≤ e → sQ (u1Q A) (iv A a e) (hN A) = sQ (wmQ A) (iv A a e) (hN A) := by
  intro e
  induction e with
  | zero => intro h; rw [show a = 0 by omega, iv_none, iv_none]
  | succ e ih =>
    intro h
    rcases Nat.lt_or_ge a (e + 1) with q | q
    · rw [iv_step (by omega), iv_step (by omega), ih (by omega), pl_u1 hok t e, ← sQ_su]
      rfl
    · rw [show a = e + 1 by omega, iv_none, iv_none]
theorem rk_means {A : Sh} (t : hT A ≠ 0) : rkA A = hP A := by
  unfold rkA
  rw [if_neg t]
abbrev gK (A : Sh) : Nat → Nat := (lnK A 0).2.1
abbrev xK (A : Sh) : Nat → Nat := (lnK A 0).2.2
abbrev cK (A : Sh) : Nat := (lnK A 0).1
theorem bkK {A : Sh} (hok : okS A) : BKS A (rkA A) (cK A) (gK A) (xK A) := (lnK_ok hok 0).1
theorem gK_iv {A : Sh} (hok : okS A) (t : hT A ≠ 0) {i : Nat} (hi : i < cK A) (f : Nat → Rat) : sQ f (fun p => (gK A i).testBit p) (hN A) = sQ f (iv A (xK A i) (xK A (i + 1))) (hN A) := by
  have bk := bkK hok
  refine sQ_congr (fun p hp => ?_)
  apply Bool.eq_iff_iff.mpr
  rw [iv_iff, (bk.2.2.2.2 i hi).2.2 p hp, rk_means t]
theorem blk_u1 {A : Sh} (hok : okS A) {i : Nat} (hi : i < cK A) : sQ (u1Q A) (fun p => (gK A i).testBit p) (hN A) = ((suS A (gK A i) : Int) : Rat) := by
  rw [← sQ_su]
  by_cases t : hT A = 2
  · have bk := bkK hok
    rw [gK_iv hok (by omega) hi, gK_iv hok (by omega) hi, iv_u1 hok t (bk.2.2.1 i hi)]
    rfl
  · refine sQ_fun (fun p hp hb => ?_)
    unfold u1Q spQ wQ
    rw [if_neg t, Int.natCast_mul, Rat.intCast_mul, Rat.mul_comm]
theorem blk_is {A : Sh} (hok : okS A) {l i p : Nat} (hi : i < (lnK A l).1) (hp : p < hN A) (h : ((lnK A l).2.1 i).testBit p = true) : blk A l p = (lnK A l).2.1 i := by
  have := ((ixK_in hok l hp).2 i hi).mp h
  unfold blk
  rw [← this]
theorem blk_sum {A : Sh} (hok : okS A) {i : Nat} (hi : i < cK A) : sQ (tL A 0) (fun p => (gK A i).testBit p) (hN A) = sQ (u2Q A) (fun p => (gK A i).testBit p) (hN A) + -(MS A (gK A i) * ((suS A (gK A i) : Int) : Rat)) := by
  have e1 : sQ (wQ A) (fun p => (gK A i).testBit p) (hN A) = ((wtS A (gK A i) : Int) : Rat) := sQ_wt A _
  have e2 := MS_mul hok (gK A i)
  rw [sQ_block hok (B := gK A i) (fun p hp h => blk_is hok hi hp h), blk_u1 hok hi, e1, ← e2]
  generalize MS A (gK A i) = x
  generalize ((wtS A (gK A i) : Int) : Rat) = w
  generalize sQ (u2Q A) (fun p => (gK A i).testBit p) (hN A) = u
  grind
/-- the papers of the blocks ahead of k -/
def prQ (A : Sh) (k p : Nat) : Bool := decide (rkA A p < xK A k)
theorem prQ_step {A : Sh} (hok : okS A) {i : Nat} (hi : i < cK A) (f : Nat → Rat) : sQ f (prQ A (i + 1)) (hN A) = sQ f (prQ A i) (hN A) + sQ f (fun p => (gK A i).testBit p) (hN A) := by
  have bk := bkK hok
  refine sQ_two (fun p hp => ?_)
  have := bk.2.2.1 i hi
  unfold prQ
  rw [decide_eq_true_eq, decide_eq_true_eq, (bk.2.2.2.2 i hi).2.2 p hp]
  omega
theorem prQ_zero {A : Sh} (hok : okS A) (f : Nat → Rat) : sQ f (prQ A 0) (hN A) = 0 := by
  have bk := bkK hok
  rw [sQ_congr (Q := fun _ => false) (fun p _ => by
    unfold prQ
    rw [bk.2.1]
    exact decide_eq_false (Nat.not_lt_zero _)), sQ_none]
theorem prQ_all {A : Sh} (hok : okS A) (f : Nat → Rat) : sQ f (prQ A (cK A)) (hN A) = sQ f (fun _ => true) (hN A) := by
  have bk := bkK hok
  exact sQ_congr (fun p hp => decide_eq_true (bk.2.2.2.1 p hp))
/-- what the blocks take away -/
def bsQ (A : Sh) : Nat → Rat
  | 0 => 0
  | i + 1 => bsQ A i + MS A (gK A i) * ((suS A (gK A i) : Int) : Rat)
theorem pre_sum {A : Sh} (hok : okS A) : ∀ k, k ≤ cK A → sQ (tL A 0) (prQ A k) (hN A) = sQ (u2Q A) (prQ A k) (hN A) + -bsQ A k := by
  intro k
  induction k with
  | zero => intro _; rw [prQ_zero hok, prQ_zero hok, bsQ, Rat.zero_add]; rfl
  | succ k ih =>
    intro hk
    rw [prQ_step hok (by omega), prQ_step hok (by omega), ih (by omega), blk_sum hok (by omega), bsQ]
    generalize sQ (u2Q A) (prQ A k) (hN A) = a
    generalize sQ (u2Q A) (fun p => (gK A k).testBit p) (hN A) = b
    generalize MS A (gK A k) * ((suS A (gK A k) : Int) : Rat) = c
    generalize bsQ A k = d
    grind
theorem chL_sum {A : Sh} (hok : okS A) : chL A 0 = sQ (u2Q A) (fun _ => true) (hN A) + -bsQ A (cK A) := by
  unfold chL
  rw [← prQ_all hok, ← prQ_all hok, pre_sum hok _ (Nat.le_refl _)]
-- products
def pr (f : Nat → Nat) : Nat → Nat
  | 0 => 1
  | k + 1 => pr f k * f k
theorem pr_dvd (f : Nat → Nat) {i : Nat} : ∀ {k}, i < k → f i ∣ pr f k := by
  intro k
  induction k with
  | zero => intro h; omega
  | succ k ih =>
    intro h
    rw [pr]
    rcases Nat.lt_or_ge i k with q | q
    · exact Nat.dvd_trans (ih q) (Nat.dvd_mul_right _ _)
    · rw [show i = k by omega]; exact Nat.dvd_mul_left _ _
theorem pr_pos {f : Nat → Nat} : ∀ {k}, (∀ i, i < k → 0 < f i) → 0 < pr f k := by
  intro k
  induction k with
  | zero => exact fun _ => Nat.zero_lt_one
  | succ k ih =>
    intro h
    rw [pr]
    exact Nat.mul_pos (ih (fun i hi => h i (by omega))) (h k (by omega))
theorem pr_le {f e : Nat → Nat} {b : Nat} : ∀ {k}, (∀ i, i < k → f i ≤ b ^ e i) → pr f k ≤ b ^ sm e k := by
  intro k
  induction k with
  | zero => exact fun _ => Nat.le_refl 1
  | succ k ih =>
    intro h
    rw [pr, sm, Nat.pow_add]
    exact Nat.mul_le_mul (ih (fun i hi => h i (by omega))) (h k (by omega))
/-- weights together, of two or more -/
def kW (A : Sh) (S : Nat) : Nat := if 2 ≤ pcn S then wtS A S else 1
set_option maxRecDepth 100000 in
theorem one_bit : ∀ S, S < 128 → S ≠ 0 → ¬ 2 ≤ pcn S → S = 2 ^ 0 ∨ S = 2 ^ 1 ∨ S = 2 ^ 2 ∨ S = 2 ^ 3 ∨ S = 2 ^ 4 ∨ S = 2 ^ 5 ∨ S = 2 ^ 6 := by decide +kernel
theorem one_bit2 {S : Nat} (h : S < 128) (h0 : S ≠ 0) (h1 : ¬ 2 ≤ pcn S) : ∃ p, S = 2 ^ p := by
  rcases one_bit S h h0 h1 with e | e | e | e | e | e | e
  · exact ⟨_, e⟩
  · exact ⟨_, e⟩
  · exact ⟨_, e⟩
  · exact ⟨_, e⟩
  · exact ⟨_, e⟩
  · exact ⟨_, e⟩
  · exact ⟨_, e⟩
theorem MS_one {A : Sh} (hok : okS A) {p : Nat} (hp : p < hN A) : MS A (2 ^ p) = ((mkA A p : Int) : Rat) := by
  have w := (wtA_in hok hp).1
  have e1 : suS A (2 ^ p) = mkA A p * wtA A p := sm_single (g := fun q => mkA A q * wtA A q) hp
  have e2 : wtS A (2 ^ p) = wtA A p := sm_single (g := fun q => wtA A q) hp
  unfold MS
  rw [e1, e2]
  exact (mkR_eq w (by rw [Int.natCast_mul, Rat.intCast_mul])).symm
theorem kW_in {A : Sh} (hok : okS A) {S : Nat} (hS : S < 2 ^ hN A) (h0 : S ≠ 0) : 0 < kW A S ∧ kW A S ≤ 6 ^ pcn S ∧ zK (kW A S) (MS A S) := by
  have S7 := lt128 hok hS
  have p7 := pcn_le S S7
  obtain ⟨i, hi⟩ := bit_of_ne0 h0
  have w := wtS_pos hok (bit_lt hS hi) hi
  unfold kW
  by_cases c : 2 ≤ pcn S
  · rw [if_pos c]
    exact ⟨w, Nat.le_trans (wt_pcn hok S) (six _ (by omega) c), zK_mk _ w (Nat.dvd_refl _)⟩
  · rw [if_neg c]
    refine ⟨Nat.zero_lt_one, Nat.pow_pos (by decide), ?_⟩
    obtain ⟨p, rfl⟩ := one_bit2 S7 h0 c
    rw [MS_one hok (bit_lt hS (p2_bit.mpr rfl))]
    exact zK_int _ _
theorem pcn_pre {A : Sh} (hok : okS A) : ∀ k, k ≤ cK A → sm (fun i => pcn (gK A i)) k = pcn (bs (prQ A k) (hN A)) := by
  have bk := bkK hok
  intro k
  induction k with
  | zero =>
    intro _
    have : bs (prQ A 0) (hN A) = 0 := Nat.eq_of_testBit_eq (fun i => by
      rw [bs_bit, Nat.zero_testBit]
      unfold prQ
      rw [bk.2.1, decide_eq_false (Nat.not_lt_zero _), Bool.and_false])
    rw [this]
    show 0 = pcn 0
    decide +kernel
  | succ k ih =>
    intro hk
    rw [sm, ih (by omega)]
    refine (pcn_two (fun i hi => ?_)).symm
    obtain ⟨g0, g1, g2⟩ := bk.2.2.2.2 k (by omega)
    have := bk.2.2.1 k (by omega)
    by_cases q : i < hN A
    · rw [bs_bit, bs_bit, decide_eq_true q, Bool.true_and, Bool.true_and, g2 i q]
      unfold prQ
      rw [decide_eq_true_eq, decide_eq_true_eq]
      omega
    · have z : ∀ {T}, T < 2 ^ hN A → ¬ T.testBit i = true := fun h x => q (bit_lt h x)
      exact ⟨⟨fun x => absurd x (z (bs_lt _ _)), fun x => (x.elim (fun y => absurd y (z (bs_lt _ _))) (fun y => absurd y (z g1)))⟩, fun x => z (bs_lt _ _) x.1⟩
theorem pcn_blocks {A : Sh} (hok : okS A) : sm (fun i => pcn (gK A i)) (cK A) ≤ 7 := by
  rw [pcn_pre hok _ (Nat.le_refl _)]
  exact pcn_le _ (lt128 hok (bs_lt _ _))
/-- over which the MEANS of all blocks lie -/
def kB (A : Sh) : Nat := pr (fun i => kW A (gK A i)) (cK A)
theorem kB_in {A : Sh} (hok : okS A) : 0 < kB A ∧ kB A ≤ 279936 ∧ ∀ i, i < cK A → zK (kB A) (MS A (gK A i)) := by
  have ab := (BKS_all (bkK hok)).2
  refine ⟨pr_pos (fun i hi => (kW_in hok (ab i hi).2 (ab i hi).1).1), ?_, fun i hi => zK_up (kW_in hok (ab i hi).2 (ab i hi).1).2.2 (pr_dvd (fun i => kW A (gK A i)) hi)⟩
  have h1 : kB A ≤ 6 ^ sm (fun i => pcn (gK A i)) (cK A) := pr_le (fun i hi => (kW_in hok (ab i hi).2 (ab i hi).1).2.1)
  have h2 : 6 ^ sm (fun i => pcn (gK A i)) (cK A) ≤ 6 ^ 7 := Nat.pow_le_pow_right (by decide) (pcn_blocks hok)
  have h3 : 6 ^ 7 = 279936 := by decide
  omega
theorem sup_free {A : Sh} (hok : okS A) (t : hT A ≠ 2) : supL A 0 := by
  obtain ⟨k0, k1, k2⟩ := kB_in hok
  have KK : 0 < kB A * kB A := Nat.mul_pos k0 k0
  have KB : kB A * kB A ≤ 279936 * 279936 := Nat.mul_le_mul k1 k1
  have dv : ∀ p, p < hN A → tLD A 0 p ∣ kB A * kB A := fun p hp => by
    have e1 : lvQ A 0 p = MS A (blk A 0 p) := by
      unfold lvQ lvN lvD
      rw [if_neg t, if_neg t]
      rfl
    have d := zK_den k0 (k2 _ (ixK_in hok 0 hp).1)
    unfold tLD
    rw [if_pos rfl, e1]
    exact Nat.mul_dvd_mul d d
  exact fun k hk => ⟨kB A * kB A, KK, by omega, zK_den KK (zK_sQ (fun i hi _ => zK_mk _ (tLD_pos A 0 i) (dv i hi))), dv k hk⟩
