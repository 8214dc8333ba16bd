/-! CHANGE in THE LINE by SQUARE, ties by MEANS: all that it lies over is small -/
theorem sm_two {g : Nat → Nat} {i j n : Nat} (hij : i ≠ j) (hi : i < n) (hj : j < n) : g i + g j ≤ sm g n := by
  have go : ∀ a b, a < b → b < n → g a + g b ≤ sm g n := fun a b h1 h2 => by
    have e1 : g a ≤ sm g b := sm_pos h1
    have e2 : sm g (b + 1) ≤ sm g n := sm_mono (by omega)
    rw [sm] at e2
    omega
  rcases Nat.lt_or_ge i j with q | q
  · exact go i j q hj
  · have := go j i (by omega) hi
    omega
def plN (A : Sh) (a d : Nat) : Nat := if a ≤ d then pcn (ofPl A d) else 0
theorem plN_sum {A : Sh} (hok : okS A) (a : Nat) : ∀ e, sm (plN A a) e = pcn (bs (iv A a e) (hN A)) := by
  have n7 := hok.1.1
  intro e
  induction e with
  | zero =>
    have : bs (iv A a 0) (hN A) = 0 := Nat.eq_of_testBit_eq (fun i => by
      rw [bs_bit, Nat.zero_testBit]
      unfold iv
      rw [decide_eq_false (Nat.not_lt_zero _), Bool.and_false, Bool.and_false])
    rw [this]
    show 0 = pcn 0
    decide +kernel
  | succ e ih =>
    rw [sm, ih]
    unfold plN
    by_cases c : a ≤ e
    · rw [if_pos c]
      refine (pcn_two (fun i hi => ?_)).symm
      by_cases q : i < hN A
      · rw [bs_bit, bs_bit, decide_eq_true q, Bool.true_and, Bool.true_and, iv_iff, iv_iff, ofPl_bit q]
        omega
      · have z : ∀ {T}, T < 2 ^ hN A → ¬ T.testBit i = true := fun h x => q (bit_lt h x)
        exact ⟨⟨fun x => absurd x (z (bs_lt _ _)), fun x => (x.elim (fun y => absurd y (z (bs_lt _ _))) (fun y => absurd y (z (ofPl_lt A e))))⟩, fun x => z (bs_lt _ _) x.1⟩
    · rw [if_neg c, Nat.add_zero]
      congr 1
      refine bs_congr (fun p hp => Bool.eq_iff_iff.mpr ?_)
      rw [iv_iff, iv_iff]
      omega
/-- the papers in places of two or more -/
def eeN (A : Sh) (a d : Nat) : Nat := if a ≤ d then (if 2 ≤ pcn (ofPl A d) then pcn (ofPl A d) else 0) else 0
theorem PK_le {A : Sh} (hok : okS A) (a e : Nat) : PK A a e ≤ 6 ^ sm (eeN A a) e := pr_le (fun d _ => by
  have p7 := pcn_le _ (lt128 hok (ofPl_lt A d))
  unfold eeN kW
  by_cases c : a ≤ d
  · rw [if_pos c, if_pos c]
    by_cases c2 : 2 ≤ pcn (ofPl A d)
    · rw [if_pos c2, if_pos c2]
      exact Nat.le_trans (wt_pcn hok _) (six _ (by omega) c2)
    · rw [if_neg c2, if_neg c2]; exact Nat.le_refl 1
  · rw [if_neg c, if_neg c]; exact Nat.le_refl 1)
theorem ee_le {A : Sh} (a e : Nat) : sm (eeN A a) e ≤ sm (plN A a) e := sm_le (fun d _ => by
  unfold eeN plN
  split
  · split <;> omega
  · exact Nat.le_refl 0)
def neN (A : Sh) (a d : Nat) : Nat := if a ≤ d then (if pcn (ofPl A d) = 0 then 0 else 1) else 0
theorem ee_ne {A : Sh} (a e : Nat) : sm (eeN A a) e + 2 * sm (neN A a) e ≤ 2 * sm (plN A a) e := by
  rw [← sm_mul, ← sm_mul, ← sm_add]
  refine sm_le (fun d _ => ?_)
  unfold eeN plN neN
  by_cases c : a ≤ d
  · rw [if_pos c, if_pos c, if_pos c]
    by_cases c2 : 2 ≤ pcn (ofPl A d)
    · rw [if_pos c2, if_neg (by omega)]; omega
    · rw [if_neg c2]
      by_cases c3 : pcn (ofPl A d) = 0
      · rw [if_pos c3]; omega
      · rw [if_neg c3]; omega
  · rw [if_neg c, if_neg c, if_neg c]; omega
theorem numG : ∀ t, t < 8 → 2 ≤ t → 18 * t * 6 ^ (min t (2 * t - 4)) ≤ 18 ^ t := by decide
theorem numH : ∀ t, t < 8 → 2 ≤ t → 18 * t * 6 ^ (min t (2 * t - 4)) * (18 * t * (if t = 2 then 1 else 18 * (t - 1))) ≤ 3456 * 18 ^ t := by decide
theorem pcn_ne {A : Sh} (hok : okS A) {p : Nat} (hp : p < hN A) : pcn (ofPl A (hP A p)) ≠ 0 := fun e => by
  have z := pcn_0 _ (lt128 hok (ofPl_lt A _)) e
  have := (ofPl_bit (v := hP A p) hp).mpr rfl
  rw [z, Nat.zero_testBit] at this
  cases this
/-- a block of more than one place, seen from one of its papers -/
theorem blk_small {A : Sh} (hok : okS A) (t : hT A = 2) {i p : Nat} (hi : i < cK A) (m : mulB A (gK A i) = true) (hp : p < hN A) (h : (gK A i).testBit p = true) : 2 ≤ pcn (gK A i) ∧ PK A (xK A i) (xK A (i + 1)) ≤ 6 ^ (min (pcn (gK A i)) (2 * pcn (gK A i) - 4)) ∧ kW A (plc A p) ≤ (if pcn (gK A i) = 2 then 1 else 18 * (pcn (gK A i) - 1)) := by
  obtain ⟨g0, g1, g2⟩ := (bkK hok).2.2.2.2 i hi
  rw [rk_means (by omega)] at g2
  obtain ⟨q, hq, hb, hne⟩ := mul_two hok (by omega) hi m hp h
  have ip := (g2 p hp).mp h
  have iq := (g2 q hq).mp hb
  have tot : sm (plN A (xK A i)) (xK A (i + 1)) = pcn (gK A i) := by
    have same : bs (iv A (xK A i) (xK A (i + 1))) (hN A) = gK A i := by
      refine bits_ext (bs_lt _ _) g1 (fun y hy => Bool.eq_iff_iff.mpr ?_)
      rw [bs_bit, decide_eq_true hy, Bool.true_and, iv_iff, g2 y hy]
    rw [plN_sum hok, same]
  have e1 := ee_le (A := A) (xK A i) (xK A (i + 1))
  have e2 := ee_ne (A := A) (xK A i) (xK A (i + 1))
  have e3 : 2 ≤ sm (neN A (xK A i)) (xK A (i + 1)) := by
    have := sm_two (g := neN A (xK A i)) (i := hP A q) (j := hP A p) hne iq.2 ip.2
    unfold neN at this ⊢
    rw [if_pos iq.1, if_pos ip.1, if_neg (pcn_ne hok hq), if_neg (pcn_ne hok hp)] at this
    exact this
  have e4 : pcn (ofPl A (hP A q)) + pcn (ofPl A (hP A p)) ≤ pcn (gK A i) := by
    have := sm_two (g := plN A (xK A i)) (i := hP A q) (j := hP A p) hne iq.2 ip.2
    rw [tot] at this
    unfold plN at this
    rw [if_pos iq.1, if_pos ip.1] at this
    exact this
  have e5 := pcn_ne hok hq
  have e6 := pcn_ne hok hp
  refine ⟨by omega, Nat.le_trans (PK_le hok _ _) (Nat.pow_le_pow_right (by decide) (by omega)), ?_⟩
  have w := wt_pcn hok (ofPl A (hP A p))
  unfold kW plc
  by_cases c : pcn (gK A i) = 2
  · rw [if_pos c, if_neg (by omega)]; exact Nat.le_refl 1
  · rw [if_neg c]
    split
    · omega
    · omega
theorem GB_le {A : Sh} (hok : okS A) (t : hT A = 2) {i : Nat} (hi : i < cK A) : GB A i ≤ 18 ^ pcn (gK A i) := by
  obtain ⟨g0, g1, g2⟩ := (bkK hok).2.2.2.2 i hi
  unfold GB
  by_cases m : mulB A (gK A i) = true
  · obtain ⟨p, hb⟩ := bit_of_ne0 g0
    obtain ⟨a, b, c⟩ := blk_small hok t hi m (bit_lt g1 hb) hb
    rw [if_pos m]
    exact Nat.le_trans (Nat.mul_le_mul (wt_pcn hok _) b) (numG _ (by have := pcn_le _ (lt128 hok g1); omega) a)
  · rw [if_neg m]
    exact Nat.pow_pos (by decide)
theorem GB_pos {A : Sh} (hok : okS A) {i : Nat} (hi : i < cK A) : 0 < GB A i := by
  obtain ⟨g0, g1, g2⟩ := (bkK hok).2.2.2.2 i hi
  obtain ⟨p, hb⟩ := bit_of_ne0 g0
  unfold GB
  split
  · exact Nat.mul_pos (wtS_pos hok (bit_lt g1 hb) hb) (PK_pos hok _ _)
  · exact Nat.zero_lt_one
theorem pr_mark {f e : Nat → Nat} {b C j : Nat} (hC : 0 < C) : ∀ {k}, (∀ i, i < k → i ≠ j → f i ≤ b ^ e i) → f j ≤ C * b ^ e j → pr f k ≤ C * b ^ sm e k := by
  intro k
  induction k with
  | zero =>
    intro _ _
    rw [pr, sm, Nat.pow_zero, Nat.mul_one]
    exact hC
  | succ k ih =>
    intro h hj
    by_cases q : k = j
    · have : pr f k ≤ b ^ sm e k := pr_le (fun i hi => h i (by omega) (by omega))
      rw [pr, sm, Nat.pow_add, q]
      rw [q] at this
      have := Nat.mul_le_mul this hj
      rw [Nat.mul_left_comm] at this
      exact this
    · rw [pr, sm, Nat.pow_add, ← Nat.mul_assoc]
      exact Nat.mul_le_mul (ih (fun i hi => h i (by omega)) hj) (h k (by omega) q)
theorem sup_means {A : Sh} (hok : okS A) (t : hT A = 2) : supL A 0 := by
  intro k hk
  have bk := bkK hok
  obtain ⟨x1, x2⟩ := ixK_in hok 0 hk
  have hb : (gK A (ixK A 0 k)).testBit k = true := (x2 _ x1).mpr rfl
  have p7 := pcn_blocks hok
  generalize hj : ixK A 0 k = j at *
  obtain ⟨g0, g1, g2⟩ := bk.2.2.2.2 j x1
  rw [rk_means (by omega)] at g2
  have ik := (g2 k hk).mp hb
  have x1' : j < cK A := x1
  -- the class's sum in three
  have three : sQ (tL A 0) (pro A (hP A k) k) (hN A) = sQ (tL A 0) (prQ A j) (hN A) + sQ (tL A 0) (iv A (xK A j) (hP A k)) (hN A) + sQ (tL A 0) (fun i => decide (hP A i = hP A k) && decide (i < k)) (hN A) := by
    rw [← sQ_two (S := fun i => decide (hP A i < hP A k)) (P := prQ A j) (Q := iv A (xK A j) (hP A k)) (fun i hi => by
      have e1 : prQ A j i = true ↔ hP A i < xK A j := by
        unfold prQ
        rw [decide_eq_true_eq, rk_means (by omega)]
      have e2 := ik.1
      show (decide (hP A i < hP A k) = true ↔ prQ A j i = true ∨ iv A (xK A j) (hP A k) i = true) ∧ ¬(prQ A j i = true ∧ iv A (xK A j) (hP A k) i = true)
      rw [e1, iv_iff, decide_eq_true_eq]
      omega)]
    refine sQ_two (fun i hi => ?_)
    have e1 : pro A (hP A k) k i = true ↔ hP A i < hP A k ∨ (hP A i = hP A k ∧ i < k) := by
      unfold pro
      rw [Bool.or_eq_true, Bool.and_eq_true, decide_eq_true_eq, decide_eq_true_eq, decide_eq_true_eq]
    show (pro A (hP A k) k i = true ↔ decide (hP A i < hP A k) = true ∨ (decide (hP A i = hP A k) && decide (i < k)) = true) ∧ ¬(decide (hP A i < hP A k) = true ∧ (decide (hP A i = hP A k) && decide (i < k)) = true)
    rw [e1, Bool.and_eq_true, decide_eq_true_eq, decide_eq_true_eq, decide_eq_true_eq]
    omega
  have inB : ∀ p, p < hN A → xK A j ≤ hP A p → hP A p < xK A (j + 1) → (gK A j).testBit p = true := fun p hp h1 h2 => (g2 p hp).mpr ⟨h1, h2⟩
  -- the blocks ahead
  have ahead : ∀ K, (∀ i, i < j → GB A i ∣ K) → ∀ m, m ≤ j → zK K (sQ (tL A 0) (prQ A m) (hN A)) := by
    intro K hK m
    induction m with
    | zero => intro _; rw [prQ_zero hok]; exact zK_zero K
    | succ m ih =>
      intro hm
      rw [prQ_step hok (by omega)]
      exact zK_add (ih (by omega)) (zK_up (GB_sum hok t (by omega)) (hK m (by omega)))
  by_cases m : mulB A (gK A j) = true
  · obtain ⟨s1, s2, s3⟩ := blk_small hok t x1' m hk hb
    have w0 : 0 < wtS A (gK A j) := wtS_pos hok hk hb
    have kp := (kpl_in hok (hP A k)).1
    have Fj : GB A j = wtS A (gK A j) * PK A (xK A j) (xK A (j + 1)) := by unfold GB; rw [if_pos m]
    have big : wtS A (gK A j) * PK A (xK A j) (xK A (j + 1)) * (wtS A (gK A j) * kW A (plc A k)) ≤ 3456 * 18 ^ pcn (gK A j) := by
      refine Nat.le_trans (Nat.mul_le_mul (Nat.mul_le_mul (wt_pcn hok _) s2) (Nat.mul_le_mul (wt_pcn hok _) s3)) (numH _ ?_ s1)
      have := pcn_le _ (lt128 hok g1)
      omega
    have hK : pr (fun i => if i = j then GB A j * (wtS A (gK A j) * kW A (plc A k)) else GB A i) (cK A) ≤ 3456 * 18 ^ sm (fun i => pcn (gK A i)) (cK A) := pr_mark (j := j) (by decide) (fun i hi hn => by
      rw [if_neg hn]
      exact GB_le hok t hi) (by
      rw [if_pos rfl, Fj]
      exact big)
    have h2 : 18 ^ sm (fun i => pcn (gK A i)) (cK A) ≤ 18 ^ 7 := Nat.pow_le_pow_right (by decide) p7
    have h3 : 18 ^ 7 = 612220032 := by decide
    have K0 : 0 < pr (fun i => if i = j then GB A j * (wtS A (gK A j) * kW A (plc A k)) else GB A i) (cK A) := pr_pos (fun i hi => by
      split
      · exact Nat.mul_pos (GB_pos hok x1') (Nat.mul_pos w0 kp)
      · exact GB_pos hok hi)
    have dj : GB A j * (wtS A (gK A j) * kW A (plc A k)) ∣ pr (fun i => if i = j then GB A j * (wtS A (gK A j) * kW A (plc A k)) else GB A i) (cK A) := by
      have := pr_dvd (fun i => if i = j then GB A j * (wtS A (gK A j) * kW A (plc A k)) else GB A i) x1'
      simp only [if_pos rfl] at this
      exact this
    have di : ∀ i, i < j → GB A i ∣ pr (fun i => if i = j then GB A j * (wtS A (gK A j) * kW A (plc A k)) else GB A i) (cK A) := fun i hi => by
      have := pr_dvd (fun i => if i = j then GB A j * (wtS A (gK A j) * kW A (plc A k)) else GB A i) (show i < cK A by omega)
      simp only [if_neg (show ¬ i = j by omega)] at this
      exact this
    generalize pr (fun i => if i = j then GB A j * (wtS A (gK A j) * kW A (plc A k)) else GB A i) (cK A) = K at *
    rw [Fj] at dj
    refine ⟨K, K0, by omega, zK_den K0 ?_, Nat.dvd_trans (tLD_means hok t x1' hk hb) dj⟩
    rw [three]
    refine zK_add (zK_add (ahead K di j (Nat.le_refl _)) (zK_up (part_zK hok t x1' ik.1 (by omega)) dj)) (zK_sQ (fun i hi hc => ?_))
    rw [Bool.and_eq_true, decide_eq_true_eq, decide_eq_true_eq] at hc
    have hbi := inB i hi (by omega) (by omega)
    have e : plc A i = plc A k := by unfold plc; rw [hc.1]
    have d := tLD_means hok t x1' hi hbi
    rw [e] at d
    exact zK_mk _ (tLD_pos A 0 i) (Nat.dvd_trans d dj)
  · have hK : pr (GB A) (cK A) ≤ 18 ^ sm (fun i => pcn (gK A i)) (cK A) := pr_le (fun i hi => GB_le hok t hi)
    have h2 : 18 ^ sm (fun i => pcn (gK A i)) (cK A) ≤ 18 ^ 7 := Nat.pow_le_pow_right (by decide) p7
    have h3 : 18 ^ 7 = 612220032 := by decide
    have K0 : 0 < pr (GB A) (cK A) := pr_pos (fun i hi => GB_pos hok hi)
    have zero : ∀ p, p < hN A → xK A j ≤ hP A p → hP A p < xK A (j + 1) → tL A 0 p = 0 ∧ tLD A 0 p = 1 := fun p hp h1 h2 => by
      have e := blk_is hok x1' hp (inB p hp h1 h2)
      exact sgl_t hok t hp (by rw [e]; exact m)
    refine ⟨pr (GB A) (cK A), K0, by omega, zK_den K0 ?_, by rw [(zero k hk ik.1 ik.2).2]; exact Nat.one_dvd _⟩
    rw [three, sQ_zero (P := iv A (xK A j) (hP A k)) (fun i hi hc => by
      have := iv_iff.mp hc
      exact (zero i hi this.1 (by omega)).1), sQ_zero (P := fun i => decide (hP A i = hP A k) && decide (i < k)) (fun i hi hc => by
      rw [Bool.and_eq_true, decide_eq_true_eq, decide_eq_true_eq] at hc
      exact (zero i hi (by omega) (by omega)).1), Rat.add_zero, Rat.add_zero]
    exact ahead _ (fun i hi => pr_dvd (GB A) (by omega)) j (Nat.le_refl _)
theorem sup_sq {A : Sh} (hok : okS A) : supL A 0 := by
  by_cases t : hT A = 2
  · exact sup_means hok t
  · exact sup_free hok t
