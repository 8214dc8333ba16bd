/-! CHANGE by SQUARE: one small multiple for all levels -/
theorem pcn_two {S T U : Nat} (h : ∀ i, i < 7 → (U.testBit i = true ↔ S.testBit i = true ∨ T.testBit i = true) ∧ ¬ (S.testBit i = true ∧ T.testBit i = true)) : pcn U = pcn S + pcn T := by
  unfold pcn
  rw [← sm_add]
  refine sm_congr (fun i hi => ?_)
  obtain ⟨h1, h2⟩ := h i hi
  by_cases c : S.testBit i = true
  · have c2 : ¬ T.testBit i = true := fun k => h2 ⟨c, k⟩
    rw [if_pos c, if_neg c2, if_pos (h1.mpr (Or.inl c))]
  · by_cases c2 : T.testBit i = true
    · rw [if_neg c, if_pos c2, if_pos (h1.mpr (Or.inr c2))]
    · rw [if_neg c, if_neg c2, if_neg (fun k => (h1.mp k).elim c c2)]
theorem wt_pcn {A : Sh} (hok : okS A) (S : Nat) : wtS A S ≤ 18 * pcn S := by
  have h : wtS A S ≤ sm (fun p => 18 * (if S.testBit p = true then 1 else 0)) (hN A) := sm_le (fun i hi => by
    have := (wtA_in hok hi).2
    by_cases c : S.testBit i = true
    · rw [if_pos c, if_pos c]; omega
    · rw [if_neg c]; exact Nat.zero_le _)
  rw [sm_mul] at h
  have h2 := sm_mono (g := fun p => if S.testBit p = true then 1 else 0) hok.1.1
  unfold pcn
  omega
theorem six : ∀ s, s < 8 → 2 ≤ s → 18 * s ≤ 6 ^ s := by decide
/-- a set that holds each level of its papers -/
def closed (A : Sh) (u d : Nat → Nat) (R : Nat) : Prop := ∀ p q, R.testBit p = true → (lev A u d p).testBit q = true → R.testBit q = true
def sqI (A : Sh) (u d : Nat → Nat) (K : Nat) (p : Nat) : Int := ((wtA A p * byN A u d p * byN A u d p : Nat) : Int) * ((K / d p * (K / d p) : Nat) : Int)
/-- all squares of a level, over its line -/
theorem lev_sum {A : Sh} {u d : Nat → Nat} {p : Nat} (lv : u p * wtS A (lev A u d p) = suS A (lev A u d p) * d p) : ∃ z : Int, sI (fun q => ((wtA A q * byN A u d q * byN A u d q : Nat) : Int)) (lev A u d p) (hN A) = (d p : Int) * z := by
  have e : sI (fun q => ((wtA A q * byN A u d q * byN A u d q : Nat) : Int)) (lev A u d p) (hN A) = sI (fun q => (u p : Int) * (u p : Int) * (wtA A q : Int) + -(2 * (u p : Int) * (d p : Int)) * ((mkA A q * wtA A q : Nat) : Int) + (d p : Int) * (d p : Int) * ((mkA A q * mkA A q * wtA A q : Nat) : Int)) (lev A u d p) (hN A) := by
    refine sI_congr (fun q _ => ⟨Iff.rfl, fun h => ?_⟩)
    obtain ⟨_, h1, h2⟩ := lev_bit.mp h
    have sq : ((byN A u d q * byN A u d q : Nat) : Int) = ((u q : Int) - ((mkA A q * d q : Nat) : Int)) * ((u q : Int) - ((mkA A q * d q : Nat) : Int)) := by
      unfold byN
      rw [← Int.natAbs_mul_self' ((u q : Int) - ((mkA A q * d q : Nat) : Int)), Int.natCast_mul]
    rw [Nat.mul_assoc, Int.natCast_mul, sq, h1, h2]
    simp only [Int.natCast_mul]
    generalize (u p : Int) = x
    generalize (d p : Int) = y
    generalize (wtA A q : Int) = w
    generalize (mkA A q : Int) = m
    grind
  have l1 : ∀ n, sI (fun q => (u p : Int) * (u p : Int) * (wtA A q : Int) + -(2 * (u p : Int) * (d p : Int)) * ((mkA A q * wtA A q : Nat) : Int) + (d p : Int) * (d p : Int) * ((mkA A q * mkA A q * wtA A q : Nat) : Int)) (lev A u d p) n = (u p : Int) * (u p : Int) * sI (fun q => (wtA A q : Int)) (lev A u d p) n + -(2 * (u p : Int) * (d p : Int)) * sI (fun q => ((mkA A q * wtA A q : Nat) : Int)) (lev A u d p) n + (d p : Int) * (d p : Int) * sI (fun q => ((mkA A q * mkA A q * wtA A q : Nat) : Int)) (lev A u d p) n := by
    intro n
    have a := sI_lin 1 ((d p : Int) * (d p : Int)) (fun q => (u p : Int) * (u p : Int) * (wtA A q : Int) + -(2 * (u p : Int) * (d p : Int)) * ((mkA A q * wtA A q : Nat) : Int)) (fun q => ((mkA A q * mkA A q * wtA A q : Nat) : Int)) (lev A u d p) n
    have b := sI_lin ((u p : Int) * (u p : Int)) (-(2 * (u p : Int) * (d p : Int))) (fun q => (wtA A q : Int)) (fun q => ((mkA A q * wtA A q : Nat) : Int)) (lev A u d p) n
    simp only [Int.one_mul] at a
    rw [a, b]
  rw [e, l1, ← wtS_I, ← suS_I]
  have lv' : (u p : Int) * (wtS A (lev A u d p) : Int) = (suS A (lev A u d p) : Int) * (d p : Int) := by
    rw [← Int.natCast_mul, ← Int.natCast_mul, lv]
  refine ⟨-((u p : Int) * (suS A (lev A u d p) : Int)) + (d p : Int) * sI (fun q => ((mkA A q * mkA A q * wtA A q : Nat) : Int)) (lev A u d p) (hN A), ?_⟩
  have e1 : (u p : Int) * (u p : Int) * (wtS A (lev A u d p) : Int) = (u p : Int) * ((suS A (lev A u d p) : Int) * (d p : Int)) := by rw [Int.mul_assoc, lv']
  rw [e1]
  generalize sI (fun q => ((mkA A q * mkA A q * wtA A q : Nat) : Int)) (lev A u d p) (hN A) = M
  generalize (suS A (lev A u d p) : Int) = S
  generalize (u p : Int) = x
  generalize (d p : Int) = y
  grind
theorem lev_mul {A : Sh} (hok : okS A) {u d : Nat → Nat} (hd : ∀ p, p < hN A → 1 ≤ d p ∧ Nat.Coprime (u p) (d p)) (lv : Lv A u d) {p : Nat} (hp : p < hN A) : d p ≤ 6 ^ pcn (lev A u d p) := by
  obtain ⟨d1, d2⟩ := hd p hp
  have lt : lev A u d p < 128 := lt128 hok (bs_lt _ _)
  have mem : (lev A u d p).testBit p = true := lev_bit.mpr ⟨hp, rfl, rfl⟩
  have w0 : 0 < wtS A (lev A u d p) := wtS_pos hok hp mem
  have dv : d p ∣ wtS A (lev A u d p) := d2.symm.dvd_of_dvd_mul_left ⟨suS A (lev A u d p), by rw [lv p hp, Nat.mul_comm]⟩
  have dl := Nat.le_of_dvd w0 dv
  have wl := wt_pcn hok (lev A u d p)
  have p7 := pcn_le _ lt
  have p1 : 1 ≤ pcn (lev A u d p) := by
    rcases Nat.eq_zero_or_pos (pcn (lev A u d p)) with q | q
    · rw [pcn_0 _ lt q, Nat.zero_testBit] at mem
      cases mem
    · exact q
  rcases Nat.lt_or_ge 1 (pcn (lev A u d p)) with q | q
  · have := six _ (by omega) q
    omega
  · -- a level of one: the value is the mark
    have one1 : lev A u d p = 2 ^ p := by
      have s1 : sub (2 ^ p) (lev A u d p) := fun i hi => by rw [pow_bit.mp hi]; exact mem
      have pc : pcn (2 ^ p) = 1 := by
        have n7 := hok.1.1
        unfold pcn
        exact sm_single (g := fun _ => 1) (by omega)
      exact sub_eq (pcn_sub lt s1 (by omega)) s1
    have l := lv p hp
    rw [one1] at l
    have e1 : wtS A (2 ^ p) = wtA A p := sm_single (g := wtA A) hp
    have e2 : suS A (2 ^ p) = mkA A p * wtA A p := sm_single (g := fun q => mkA A q * wtA A q) hp
    rw [e1, e2, Nat.mul_right_comm] at l
    have l2 := Nat.eq_of_mul_eq_mul_right (wtA_in hok hp).1 l
    have : d p ∣ u p := ⟨mkA A p, by rw [l2, Nat.mul_comm]⟩
    have : d p = 1 := Nat.Coprime.eq_one_of_dvd d2.symm this
    rw [this]
    exact Nat.pow_pos (by decide)
