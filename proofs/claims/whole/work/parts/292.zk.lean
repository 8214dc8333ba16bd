/-! numbers over K; squares in THE LINE as fractions -/
theorem cz {d : Nat} (h : 0 < d) : ((d : Int) : Rat) ≠ 0 := fun e => by
  have := Rat.intCast_eq_zero_iff.mp e
  omega
theorem mkR_mul (x : Int) {d : Nat} (h : 0 < d) : mkRat x d * ((d : Int) : Rat) = (x : Rat) := by
  have n := cz h
  rw [Rat.mkRat_eq_div]
  exact Rat.div_mul_cancel n
theorem can_R {a b c : Rat} (h : c ≠ 0) (e : a * c = b * c) : a = b := by
  have e2 : a * c / c = b * c / c := by rw [e]
  rw [Rat.mul_div_cancel h, Rat.mul_div_cancel h] at e2
  exact e2
theorem mkR_eq {q : Rat} {x : Int} {d : Nat} (h : 0 < d) (e : q * ((d : Int) : Rat) = (x : Rat)) : q = mkRat x d := can_R (cz h) (by rw [e, mkR_mul x h])
/-- a whole number, if K times it is taken -/
def zK (K : Nat) (q : Rat) : Prop := ∃ z : Int, q * ((K : Int) : Rat) = (z : Rat)
theorem zK_den {K : Nat} {q : Rat} (hK : 0 < K) (h : zK K q) : q.den ∣ K := by
  obtain ⟨z, e⟩ := h
  rw [mkR_eq hK e]
  exact den_mk z hK
theorem zK_zero (K : Nat) : zK K 0 := ⟨0, by rw [Rat.zero_mul]; rfl⟩
theorem zK_add {K : Nat} {q r : Rat} (h : zK K q) (k : zK K r) : zK K (q + r) := by
  obtain ⟨x, ex⟩ := h
  obtain ⟨y, ey⟩ := k
  exact ⟨x + y, by rw [Rat.add_mul, ex, ey, Rat.intCast_add]⟩
theorem zK_up {K L : Nat} {q : Rat} (h : zK K q) (d : K ∣ L) : zK L q := by
  obtain ⟨m, rfl⟩ := d
  obtain ⟨x, ex⟩ := h
  exact ⟨x * (m : Int), by rw [Int.natCast_mul, Rat.intCast_mul, ← Rat.mul_assoc, ex, Rat.intCast_mul]⟩
theorem zK_neg {K : Nat} {q : Rat} (h : zK K q) : zK K (-q) := by
  obtain ⟨x, ex⟩ := h
  exact ⟨-x, by rw [Rat.neg_mul, ex, Rat.intCast_neg]⟩
theorem zK_mk (x : Int) {d K : Nat} (hd : 0 < d) (h : d ∣ K) : zK K (mkRat x d) := zK_up ⟨x, mkR_mul x hd⟩ h
theorem zK_int (K : Nat) (z : Int) : zK K (z : Rat) := ⟨z * (K : Int), by rw [Rat.intCast_mul]⟩
theorem zK_times {K : Nat} {q : Rat} (z : Int) (h : zK K q) : zK K ((z : Rat) * q) := by
  obtain ⟨x, ex⟩ := h
  exact ⟨z * x, by rw [Rat.mul_assoc, ex, Rat.intCast_mul]⟩
theorem zK_sQ {K : Nat} {f : Nat → Rat} {P : Nat → Bool} : ∀ {n : Nat}, (∀ i, i < n → P i = true → zK K (f i)) → zK K (sQ f P n) := by
  intro n
  induction n with
  | zero => exact fun _ => zK_zero K
  | succ n ih =>
    intro h
    rw [sQ]
    refine zK_add (ih (fun i hi => h i (by omega))) ?_
    split
    · rename_i c; exact h n (by omega) c
    · exact zK_zero K
theorem sQ_lin (a b : Rat) (f g h : Nat → Rat) (P : Nat → Bool) : ∀ n, sQ (fun i => a * f i + b * g i + h i) P n = a * sQ f P n + b * sQ g P n + sQ h P n := by
  intro n
  induction n with
  | zero => rw [sQ, sQ, sQ, sQ, Rat.mul_zero, Rat.mul_zero, Rat.add_zero, Rat.add_zero]
  | succ n ih =>
    rw [sQ, sQ, sQ, sQ, ih]
    by_cases c : P n = true
    · rw [if_pos c, if_pos c, if_pos c, if_pos c]
      generalize sQ f P n = x
      generalize sQ g P n = y
      generalize sQ h P n = z
      generalize f n = u
      generalize g n = v
      generalize h n = w
      grind
    · rw [if_neg c, if_neg c, if_neg c, if_neg c, Rat.add_zero, Rat.add_zero, Rat.add_zero, Rat.add_zero]
theorem sQ_mul (a : Rat) (f : Nat → Rat) (P : Nat → Bool) : ∀ n, sQ (fun i => a * f i) P n = a * sQ f P n := by
  intro n
  induction n with
  | zero => rw [sQ, sQ, Rat.mul_zero]
  | succ n ih =>
    rw [sQ, sQ, ih, Rat.mul_add]
    by_cases c : P n = true
    · rw [if_pos c, if_pos c]
    · rw [if_neg c, if_neg c, Rat.mul_zero]
theorem sQ_fun {f g : Nat → Rat} {P : Nat → Bool} : ∀ {n : Nat}, (∀ i, i < n → P i = true → f i = g i) → sQ f P n = sQ g P n := by
  intro n
  induction n with
  | zero => intro _; rfl
  | succ n ih =>
    intro h
    rw [sQ, sQ, ih (fun i hi => h i (by omega))]
    by_cases c : P n = true
    · rw [if_pos c, if_pos c, h n (by omega) c]
    · rw [if_neg c, if_neg c]
theorem sQ_nat (x : Nat → Nat) (P : Nat → Bool) : ∀ n, sQ (fun i => ((x i : Int) : Rat)) P n = ((sm (fun i => if P i = true then x i else 0) n : Nat) : Int) := by
  intro n
  induction n with
  | zero => rfl
  | succ n ih =>
    rw [sQ, ih, sm, Int.natCast_add, Rat.intCast_add]
    by_cases c : P n = true
    · rw [if_pos c, if_pos c]
    · rw [if_neg c, if_neg c]
      rfl
theorem sQ_wt (A : Sh) (S : Nat) : sQ (fun p => ((wtA A p : Int) : Rat)) (fun p => S.testBit p) (hN A) = ((wtS A S : Int) : Rat) := sQ_nat _ _ _
theorem sQ_su (A : Sh) (S : Nat) : sQ (fun p => (((mkA A p * wtA A p : Nat) : Int) : Rat)) (fun p => S.testBit p) (hN A) = ((suS A S : Int) : Rat) := sQ_nat _ _ _
/-- the MEAN of some -/
def MS (A : Sh) (S : Nat) : Rat := mkRat (suS A S : Int) (wtS A S)
theorem MS_mul {A : Sh} (hok : okS A) (S : Nat) : MS A S * ((wtS A S : Int) : Rat) = ((suS A S : Int) : Rat) := by
  rcases Nat.eq_zero_or_pos (wtS A S) with c | c
  · have := suS_le hok S
    rw [c, show suS A S = 0 by omega]
    exact Rat.mul_zero _
  · exact mkR_mul _ c
/-- what VALUE and the MEAN of the block differ by: MARK, or the MEAN of the place -/
def spQ (A : Sh) (p : Nat) : Rat := if hT A = 2 then MS A (plc A p) else ((mkA A p : Int) : Rat)
theorem lv_ms {A : Sh} (hok : okS A) {p : Nat} (hp : p < hN A) : lvQ A 0 p - ((mkA A p : Int) : Rat) = MS A (blk A 0 p) - spQ A p := by
  obtain ⟨b1, b2, b3⟩ := blk_in hok 0 hp
  obtain ⟨a1, a2, a3⟩ := nu_in hok 0 b2 b1
  obtain ⟨p1, p2⟩ := plc_in hp
  obtain ⟨c1, c2, c3⟩ := nu_in hok 0 p2 p1
  by_cases t : hT A = 2
  · have e1 : lvQ A 0 p = MS A (blk A 0 p) + mkRat (-(suS A (plc A p) : Int)) (wtS A (plc A p)) + mkRat (mkA A p : Int) 1 := by
      have := lv_sum (U := nuU A 0 (blk A 0 p)) (pU := nuU A 0 (plc A p)) (m := mkA A p) a1 c1
      unfold lvQ lvN lvD
      rw [if_pos t, if_pos t]
      exact this.symm
    have e2 : mkRat (mkA A p : Int) 1 = ((mkA A p : Int) : Rat) := (mkR_eq (d := 1) (by decide) (Rat.mul_one _)).symm
    have e3 : mkRat (-(suS A (plc A p) : Int)) (wtS A (plc A p)) = -MS A (plc A p) := (Rat.neg_mkRat _ _).symm
    unfold spQ
    rw [if_pos t, e1, e2, e3]
    generalize MS A (blk A 0 p) = x
    generalize MS A (plc A p) = y
    generalize ((mkA A p : Int) : Rat) = z
    grind
  · have e1 : lvQ A 0 p = MS A (blk A 0 p) := by
      unfold lvQ lvN lvD
      rw [if_neg t, if_neg t]
      rfl
    unfold spQ
    rw [if_neg t, e1]
theorem tL_sq {A : Sh} {p : Nat} : tL A 0 p = ((wtA A p : Int) : Rat) * ((lvQ A 0 p - ((mkA A p : Int) : Rat)) * (lvQ A 0 p - ((mkA A p : Int) : Rat))) := by
  have d0 := (lvQ A 0 p).den_pos
  have e1 : lvQ A 0 p * (((lvQ A 0 p).den : Int) : Rat) = ((lvQ A 0 p).num : Rat) := by
    have := mkR_mul (lvQ A 0 p).num d0
    rw [Rat.mkRat_self] at this
    exact this
  have sq : ((aL A 0 p * aL A 0 p : Nat) : Int) = ((lvQ A 0 p).num - ((mkA A p * (lvQ A 0 p).den : Nat) : Int)) * ((lvQ A 0 p).num - ((mkA A p * (lvQ A 0 p).den : Nat) : Int)) := by
    unfold aL
    rw [← Int.natAbs_mul_self' ((lvQ A 0 p).num - ((mkA A p * (lvQ A 0 p).den : Nat) : Int)), Int.natCast_mul]
  refine can_R (cz (tLD_pos A 0 p)) ?_
  have e2 : tL A 0 p * ((tLD A 0 p : Int) : Rat) = ((tLN A 0 p : Int) : Rat) := mkR_mul _ (tLD_pos A 0 p)
  rw [e2]
  unfold tLN tLD
  rw [if_pos rfl, if_pos rfl, Nat.mul_assoc, Int.natCast_mul, sq]
  simp only [Int.natCast_mul, Rat.intCast_mul, Rat.intCast_sub]
  rw [← e1]
  generalize (((lvQ A 0 p).den : Int) : Rat) = d
  generalize lvQ A 0 p = v
  generalize ((wtA A p : Int) : Rat) = w
  generalize ((mkA A p : Int) : Rat) = m
  grind
def wQ (A : Sh) (p : Nat) : Rat := ((wtA A p : Int) : Rat)
def u1Q (A : Sh) (p : Nat) : Rat := wQ A p * spQ A p
def u2Q (A : Sh) (p : Nat) : Rat := wQ A p * spQ A p * spQ A p
theorem tL_ms {A : Sh} (hok : okS A) {p : Nat} (hp : p < hN A) : tL A 0 p = MS A (blk A 0 p) * MS A (blk A 0 p) * wQ A p + (-(2 * MS A (blk A 0 p))) * u1Q A p + u2Q A p := by
  rw [tL_sq, lv_ms hok hp]
  unfold u1Q u2Q wQ
  generalize MS A (blk A 0 p) = x
  generalize spQ A p = y
  generalize ((wtA A p : Int) : Rat) = w
  grind
/-- over some of one block -/
theorem sQ_block {A : Sh} (hok : okS A) {B : Nat} {P : Nat → Bool} (h : ∀ p, p < hN A → P p = true → blk A 0 p = B) : sQ (tL A 0) P (hN A) = MS A B * MS A B * sQ (wQ A) P (hN A) + (-(2 * MS A B)) * sQ (u1Q A) P (hN A) + sQ (u2Q A) P (hN A) := by
  rw [← sQ_lin]
  refine sQ_fun (fun p hp hP => ?_)
  rw [tL_ms hok hp, h p hp hP]
