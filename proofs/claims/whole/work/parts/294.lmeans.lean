/-! CHANGE in THE LINE by SQUARE, ties by MEANS: over what the class's sum lies -/
/-- more than one place -/
def mulB (A : Sh) (S : Nat) : Bool := decide (fw (fun e => decide (ofPl A e = S)) 10 = 10)
theorem mul_two {A : Sh} (hok : okS A) (t : hT A ≠ 0) {i : Nat} (hi : i < cK A) (m : mulB A (gK A i) = true) {p : Nat} (hp : p < hN A) (h : (gK A i).testBit p = true) : ∃ q, q < hN A ∧ (gK A i).testBit q = true ∧ hP A q ≠ hP A p := by
  obtain ⟨g0, g1, g2⟩ := (bkK hok).2.2.2.2 i hi
  rw [rk_means t] at g2
  have ne : ofPl A (hP A p) ≠ gK A i := by
    have := fw_no (of_decide_eq_true m) (hP A p) (by have := hP_le hok hp; omega)
    exact of_decide_eq_false this
  refine Classical.byContradiction fun no => ne (bits_ext (ofPl_lt A _) g1 (fun q hq => Bool.eq_iff_iff.mpr ?_))
  rw [ofPl_bit hq]
  constructor
  · intro e
    have := (g2 p hp).mp h
    exact (g2 q hq).mpr (by rw [e]; exact this)
  · intro hb
    exact Classical.byContradiction fun x => no ⟨q, hq, hb, x⟩
theorem mul_not {A : Sh} {S : Nat} (m : ¬ mulB A S = true) : ∃ e, ofPl A e = S := by
  have n : fw (fun e => decide (ofPl A e = S)) 10 ≠ 10 := fun e => m (decide_eq_true e)
  have := fw_le (fun e => decide (ofPl A e = S)) 10
  exact ⟨_, of_decide_eq_true (fw_lt (w := fun e => decide (ofPl A e = S)) (k := 10) (by omega)).1⟩
theorem sgl_lv {A : Sh} (hok : okS A) (t : hT A = 2) {p : Nat} (hp : p < hN A) (m : ¬ mulB A (blk A 0 p) = true) : lvQ A 0 p = ((mkA A p : Int) : Rat) := by
  obtain ⟨e, he⟩ := mul_not m
  have b := (blk_in hok 0 hp).2.2
  rw [← he] at b
  have := (ofPl_bit hp).mp b
  have h := lv_ms hok hp
  have z : MS A (blk A 0 p) - spQ A p = 0 := by
    unfold spQ plc
    rw [if_pos t, this, he]
    exact Rat.sub_self
  rw [z] at h
  generalize lvQ A 0 p = x at *
  generalize ((mkA A p : Int) : Rat) = y at *
  grind
theorem sgl_t {A : Sh} (hok : okS A) (t : hT A = 2) {p : Nat} (hp : p < hN A) (m : ¬ mulB A (blk A 0 p) = true) : tL A 0 p = 0 ∧ tLD A 0 p = 1 := by
  have e := sgl_lv hok t hp m
  constructor
  · rw [tL_sq, e, Rat.sub_self, Rat.mul_zero, Rat.mul_zero]
  · unfold tLD
    rw [if_pos rfl, e, Rat.den_intCast]
theorem sQ_zero {f : Nat → Rat} {P : Nat → Bool} {n : Nat} (h : ∀ i, i < n → P i = true → f i = 0) : sQ f P n = 0 := by
  have e : sQ f P n = sQ (fun _ => 0) P n := sQ_fun h
  rw [e]
  clear e h
  induction n with
  | zero => rfl
  | succ n ih =>
    rw [sQ, ih]
    split <;> exact Rat.add_zero _
/-- over which the MEANS of places lie -/
def PK (A : Sh) (a e : Nat) : Nat := pr (fun d => if a ≤ d then kW A (ofPl A d) else 1) e
theorem PK_step {A : Sh} {a e : Nat} (h : a ≤ e) : PK A a (e + 1) = PK A a e * kW A (ofPl A e) := by
  unfold PK
  rw [pr, if_pos h]
theorem pr_mono (f : Nat → Nat) {a : Nat} : ∀ {b}, a ≤ b → pr f a ∣ pr f b := by
  intro b
  induction b with
  | zero => intro h; rw [show a = 0 by omega]; exact Nat.dvd_refl _
  | succ b ih =>
    intro h
    rcases Nat.lt_or_ge a (b + 1) with q | q
    · rw [pr]; exact Nat.dvd_trans (ih (by omega)) (Nat.dvd_mul_right _ _)
    · rw [show a = b + 1 by omega]; exact Nat.dvd_refl _
theorem kpl_dvd {A : Sh} {a d e : Nat} (h1 : a ≤ d) (h2 : d < e) : kW A (ofPl A d) ∣ PK A a e := by
  have := pr_dvd (fun d => if a ≤ d then kW A (ofPl A d) else 1) h2
  simp only [if_pos h1] at this
  exact this
theorem su_zero (A : Sh) : suS A 0 = 0 := sm_zero (fun i _ => if_neg (by rw [Nat.zero_testBit]; decide))
theorem kpl_in {A : Sh} (hok : okS A) (e : Nat) : 0 < kW A (ofPl A e) ∧ zK (kW A (ofPl A e)) (MS A (ofPl A e)) := by
  by_cases c : ofPl A e = 0
  · have p0 : ¬ 2 ≤ pcn 0 := by decide +kernel
    rw [c]
    unfold kW MS
    rw [if_neg p0, su_zero]
    have : mkRat ((0 : Nat) : Int) (wtS A 0) = 0 := Rat.zero_mkRat _
    rw [this]
    exact ⟨Nat.zero_lt_one, zK_zero 1⟩
  · obtain ⟨a, b, d⟩ := kW_in hok (ofPl_lt A e) c
    exact ⟨a, d⟩
theorem PK_pos {A : Sh} (hok : okS A) (a e : Nat) : 0 < PK A a e := pr_pos (fun d _ => by
  split
  · exact (kpl_in hok d).1
  · exact Nat.zero_lt_one)
theorem u2_zK {A : Sh} (hok : okS A) (t : hT A = 2) {a : Nat} : ∀ {e}, a ≤ e → zK (PK A a e) (sQ (u2Q A) (iv A a e) (hN A)) := by
  intro e
  induction e with
  | zero => intro h; rw [show a = 0 by omega, iv_none]; exact zK_zero _
  | succ e ih =>
    intro h
    rcases Nat.lt_or_ge a (e + 1) with q | q
    · rw [iv_step (by omega), pl_u2 hok t e, PK_step (by omega), Rat.mul_comm (MS A (ofPl A e))]
      exact zK_add (zK_up (ih (by omega)) (Nat.dvd_mul_right _ _)) (zK_up (zK_times _ (kpl_in hok e).2) (Nat.dvd_mul_left _ _))
    · rw [show a = e + 1 by omega, iv_none]; exact zK_zero _
theorem MS_zK {A : Sh} (hok : okS A) (S : Nat) : zK (wtS A S) (MS A S) := ⟨(suS A S : Int), MS_mul hok S⟩
/-- over which a block's squares lie, all of them -/
def GB (A : Sh) (i : Nat) : Nat := if mulB A (gK A i) = true then wtS A (gK A i) * PK A (xK A i) (xK A (i + 1)) else 1
theorem GB_sum {A : Sh} (hok : okS A) (t : hT A = 2) {i : Nat} (hi : i < cK A) : zK (GB A i) (sQ (tL A 0) (fun p => (gK A i).testBit p) (hN A)) := by
  have bk := bkK hok
  unfold GB
  by_cases m : mulB A (gK A i) = true
  · rw [if_pos m, blk_sum hok hi, gK_iv hok (by omega) hi, Rat.mul_comm (MS A (gK A i))]
    exact zK_add (zK_up (u2_zK hok t (bk.2.2.1 i hi)) (Nat.dvd_mul_left _ _)) (zK_neg (zK_up (zK_times _ (MS_zK hok _)) (Nat.dvd_mul_right _ _)))
  · rw [if_neg m, sQ_zero (fun p hp hb => by
      have e := blk_is hok hi hp hb
      exact (sgl_t hok t hp (by rw [e]; exact m)).1)]
    exact zK_zero 1
theorem zK_mul {K L : Nat} {q r : Rat} (h : zK K q) (k : zK L r) : zK (K * L) (q * r) := by
  obtain ⟨x, ex⟩ := h
  obtain ⟨y, ey⟩ := k
  refine ⟨x * y, ?_⟩
  rw [Int.natCast_mul, Rat.intCast_mul, Rat.intCast_mul, ← ex, ← ey]
  generalize ((K : Int) : Rat) = a
  generalize ((L : Int) : Rat) = b
  grind
theorem sQ_wm_int (A : Sh) (P : Nat → Bool) : ∃ z : Int, sQ (wmQ A) P (hN A) = (z : Rat) := ⟨_, sQ_nat (fun p => mkA A p * wtA A p) P (hN A)⟩
theorem sQ_w_int (A : Sh) (P : Nat → Bool) : ∃ z : Int, sQ (wQ A) P (hN A) = (z : Rat) := ⟨_, sQ_nat (wtA A) P (hN A)⟩
/-- the places of a block, up to one -/
theorem part_zK {A : Sh} (hok : okS A) (t : hT A = 2) {i e L : Nat} (hi : i < cK A) (h1 : xK A i ≤ e) (h2 : e ≤ xK A (i + 1)) : zK (wtS A (gK A i) * PK A (xK A i) (xK A (i + 1)) * (wtS A (gK A i) * L)) (sQ (tL A 0) (iv A (xK A i) e) (hN A)) := by
  obtain ⟨g0, g1, g2⟩ := (bkK hok).2.2.2.2 i hi
  rw [rk_means (by omega)] at g2
  rw [sQ_block hok (B := gK A i) (fun p hp h => blk_is hok hi hp ((g2 p hp).mpr (by have := iv_iff.mp h; omega)))]
  obtain ⟨z1, e1⟩ := sQ_w_int A (iv A (xK A i) e)
  obtain ⟨z2, e2⟩ := sQ_wm_int A (iv A (xK A i) e)
  rw [iv_u1 hok t h1, e1, e2]
  have m := MS_zK hok (gK A i)
  have a1 : zK (wtS A (gK A i) * PK A (xK A i) (xK A (i + 1)) * (wtS A (gK A i) * L)) (MS A (gK A i) * MS A (gK A i) * (z1 : Rat)) := by
    rw [Rat.mul_comm]
    refine zK_times _ (zK_up (zK_mul m m) ?_)
    exact Nat.mul_dvd_mul (Nat.dvd_mul_right _ _) (Nat.dvd_mul_right _ _)
  have a2 : zK (wtS A (gK A i) * PK A (xK A i) (xK A (i + 1)) * (wtS A (gK A i) * L)) (-(2 * MS A (gK A i)) * (z2 : Rat)) := by
    have e3 : -(2 * MS A (gK A i)) * (z2 : Rat) = ((-(2 * z2) : Int) : Rat) * MS A (gK A i) := by
      rw [Rat.intCast_neg, Rat.intCast_mul]
      have : ((2 : Int) : Rat) = 2 := rfl
      rw [this]
      generalize MS A (gK A i) = x
      generalize (z2 : Rat) = y
      grind
    rw [e3]
    exact zK_times _ (zK_up m (Nat.dvd_trans (Nat.dvd_mul_right _ _) (Nat.dvd_mul_right _ _)))
  refine zK_add (zK_add a1 a2) (zK_up (u2_zK hok t h1) (Nat.dvd_trans (pr_mono _ h2) ?_))
  exact Nat.dvd_trans (Nat.dvd_mul_left _ _) (Nat.dvd_mul_right _ _)
theorem tLD_means {A : Sh} (hok : okS A) (t : hT A = 2) {i p : Nat} (hi : i < cK A) (hp : p < hN A) (h : (gK A i).testBit p = true) : tLD A 0 p ∣ wtS A (gK A i) * PK A (xK A i) (xK A (i + 1)) * (wtS A (gK A i) * kW A (plc A p)) := by
  obtain ⟨g0, g1, g2⟩ := (bkK hok).2.2.2.2 i hi
  rw [rk_means (by omega)] at g2
  have hx := (g2 p hp).mp h
  have w : 0 < wtS A (gK A i) := wtS_pos hok hp h
  have k := kpl_in hok (hP A p)
  have e : lvQ A 0 p = MS A (gK A i) + (-MS A (plc A p) + ((mkA A p : Int) : Rat)) := by
    have := lv_ms hok hp
    rw [blk_is hok hi hp h] at this
    unfold spQ at this
    rw [if_pos t] at this
    generalize lvQ A 0 p = x at *
    generalize MS A (gK A i) = y at *
    generalize MS A (plc A p) = z at *
    generalize ((mkA A p : Int) : Rat) = u at *
    grind
  have d : (lvQ A 0 p).den ∣ wtS A (gK A i) * kW A (plc A p) := by
    refine zK_den (Nat.mul_pos w k.1) ?_
    rw [e]
    exact zK_add (zK_up (MS_zK hok _) (Nat.dvd_mul_right _ _)) (zK_add (zK_neg (zK_up k.2 (Nat.dvd_mul_left _ _))) (zK_int _ _))
  unfold tLD
  rw [if_pos rfl]
  refine Nat.dvd_trans (Nat.mul_dvd_mul d d) (Nat.mul_dvd_mul (Nat.mul_dvd_mul (Nat.dvd_refl _) ?_) (Nat.dvd_refl _))
  exact kpl_dvd hx.1 hx.2
