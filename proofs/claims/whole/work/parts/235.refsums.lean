/-! the reference: sums, low sets, what a paper gets -/
def SR (s : T10) (A : Sh) (W : Nat) : Prop := S10 s A ∧ Eqn (p10_beneath s) (bls A W) (hN A)
theorem SR_v {s : T10} {A : Sh} {W : Nat} (h : SR s A W) (a b : Int64) (f g : Nat → Int32) : SR (u10_valueDown g (u10_valueUp f (u10_down b (u10_up a s)))) A W := ⟨S10_mk h.1 (by dsimp only [c10]), h.2⟩
theorem sumOf10 {s : T10} {A : Sh} (h : S10 s A) (hok : okS A) {x : Nat} (hx : x < 2 ^ hN A) : m_X10_sumOf s (nI x) = some (nI (suS A x)) := by
  have n7 := hok.1.1
  have p7 := pow_le7 n7
  have key : lp (fun z : Int32 × Int32 => m_X10_sumOf_l4 s (nI x) z.1 z.2) fu ((0 : Int32), (0 : Int32)) = some (nI (suS A x)) := by
    refine lp_for (fun k => (nI (sm (fun p => if x.testBit p = true then mkA A p * wtA A p else 0) k), nI k)) (hN A) (fun k hk => ?_) ?_ (by omega) rfl
    · simp only [m_X10_sumOf_l4]
      rw [h.1, if_neg (nI_ge hk (by omega)), has10 (by omega) (by omega), Option.bind_some, nI_1]
      by_cases c : x.testBit k = true
      · rw [if_pos c, if_neg (by decide), weight10 h hok hk, Option.bind_some, mark10 h hok hk, Option.bind_some, nI_mul, nI_add, sm, if_pos c, Nat.mul_comm]
      · rw [if_neg c, if_pos rfl, Int32.add_zero, sm, if_neg c]
        rfl
    · simp only [m_X10_sumOf_l4]
      rw [h.1, if_pos (nI_le (Nat.le_refl _) (by omega))]
      rfl
  unfold m_X10_sumOf
  rw [key, Option.bind_some]
theorem weightOf10 {s : T10} {A : Sh} (h : S10 s A) (hok : okS A) {x : Nat} (hx : x < 2 ^ hN A) : m_X10_weightOf s (nI x) = some (nI (wtS A x)) := by
  have n7 := hok.1.1
  have p7 := pow_le7 n7
  have key : lp (fun z : Int32 × Int32 => m_X10_weightOf_l4 s (nI x) z.1 z.2) fu ((0 : Int32), (0 : Int32)) = some (nI (wtS A x)) := by
    refine lp_for (fun k => (nI (sm (fun p => if x.testBit p = true then wtA A p else 0) k), nI k)) (hN A) (fun k hk => ?_) ?_ (by omega) rfl
    · simp only [m_X10_weightOf_l4]
      rw [h.1, if_neg (nI_ge hk (by omega)), has10 (by omega) (by omega), Option.bind_some, nI_1]
      by_cases c : x.testBit k = true
      · rw [if_pos c, if_neg (by decide), weight10 h hok hk, Option.bind_some, nI_add, sm, if_pos c]
      · rw [if_neg c, if_pos rfl, Int32.add_zero, sm, if_neg c]
        rfl
    · simp only [m_X10_weightOf_l4]
      rw [h.1, if_pos (nI_le (Nat.le_refl _) (by omega))]
      rfl
  unfold m_X10_weightOf
  rw [key, Option.bind_some]
theorem isLow10 {s : T10} {A : Sh} {W : Nat} (h : SR s A W) (hok : okS A) {B R : Nat} (hB : B < 2 ^ hN A) (hR : R < 2 ^ hN A) : (m_X10_isLow s (nI B) (nI R) = some 1 ∧ low A W B R) ∨ (m_X10_isLow s (nI B) (nI R) = some 0 ∧ ¬ low A W B R) := by
  have n7 := hok.1.1
  have p7 := pow_le7 n7
  obtain ⟨r, e, q⟩ := lp_invf (f := fun z : Int32 => m_X10_isLow_l2 s (nI B) (nI R) z) (I := fun d z => ∃ k, k ≤ hN A ∧ d = hN A - k ∧ z = nI k ∧ ∀ p q, p < k → B.testBit p = true → Und A W q p → R.testBit q = true → B.testBit q = true) (Q := fun r => (r = .inr () ∧ low A W B R) ∨ (r = .inl () ∧ ¬ low A W B R)) (d := hN A) (s := 0) (by
    rintro d z ⟨k, hk, hd, rfl, no⟩
    rcases Nat.lt_or_ge k (hN A) with q | q
    · have lb := bls_lt A W k
      have l1 := dif_le (bls A W k &&& R) B
      have l2 : bls A W k &&& R ≤ bls A W k := Nat.and_le_left
      have go : m_X10_isLow_l2 s (nI B) (nI R) (nI k) = if B.testBit k = true then (if nI (dif (bls A W k &&& R) B) = 0 then some (.inl (nI (k + 1))) else some (.inr (.inl ()))) else some (.inl (nI (k + 1))) := by
        unfold m_X10_isLow_l2
        rw [h.1.1, if_neg (nI_ge q (by omega)), has10 (by omega) (by omega), Option.bind_some, nI_1]
        by_cases c : B.testBit k = true
        · rw [if_pos c, if_pos c, if_neg (by decide), if_pos (inb_nI (by omega) (by decide)), nI_clamp (by omega), h.2 k q, nI_and, nI_dif]
        · rw [if_neg c, if_neg c, if_pos rfl]
      rw [go]
      by_cases c : B.testBit k = true
      · rw [if_pos c]
        by_cases c2 : dif (bls A W k &&& R) B = 0
        · rw [c2, if_pos (show nI 0 = 0 from rfl)]
          refine Or.inl ⟨hN A - (k + 1), _, rfl, by omega, k + 1, by omega, rfl, rfl, fun p x hp hb hu hr => ?_⟩
          rcases Nat.lt_or_ge p k with w | w
          · exact no p x w hb hu hr
          · rw [show p = k by omega] at hu
            refine Classical.byContradiction fun n => ?_
            have : (dif (bls A W k &&& R) B).testBit x = true := dif_bitp.mpr ⟨and_bit.mpr ⟨(bls_bit hok).mpr hu, hr⟩, n⟩
            rw [c2, Nat.zero_testBit] at this
            cases this
        · rw [if_neg (show ¬ nI (dif (bls A W k &&& R) B) = 0 from fun x => c2 (nI_inj (b := 0) (by omega) (by decide) x))]
          refine Or.inr ⟨_, rfl, Or.inr ⟨rfl, fun n => ?_⟩⟩
          obtain ⟨i, hi⟩ := bit_of_ne0 c2
          rw [dif_bitp, and_bit, bls_bit hok] at hi
          exact hi.2 (n k i c hi.1.1 hi.1.2)
      · rw [if_neg c]
        refine Or.inl ⟨hN A - (k + 1), _, rfl, by omega, k + 1, by omega, rfl, rfl, fun p x hp hb hu hr => ?_⟩
        rcases Nat.lt_or_ge p k with w | w
        · exact no p x w hb hu hr
        · rw [show p = k by omega] at hb
          exact absurd hb c
    · refine Or.inr ⟨.inr (), ?_, Or.inl ⟨rfl, fun p x hb hu hr => no p x (by have := (Und_lt hok hu).2; omega) hb hu hr⟩⟩
      unfold m_X10_isLow_l2
      rw [h.1.1, if_pos (nI_le q (by omega))]) ⟨0, Nat.zero_le _, rfl, rfl, fun p q hp => absurd hp (Nat.not_lt_zero p)⟩ (by omega)
  unfold m_X10_isLow
  rw [e, Option.bind_some]
  rcases q with ⟨rfl, q⟩ | ⟨rfl, q⟩
  · exact Or.inl ⟨rfl, q⟩
  · exact Or.inr ⟨rfl, q⟩
theorem gets10 (s : T10) {p : Nat} (hp : p < 7) (a : Nat) {b : Nat} (ra : a < 4611686018427387904) (hb : 0 < b) (rb : b < 4611686018427387904) : m_X10_gets s (nI p) (J a) (J b) = some (J ((a / Nat.gcd a b : Nat) : Int), J ((b / Nat.gcd a b : Nat) : Int), upd (p10_valueUp s) p (nI (a / Nat.gcd a b)), upd (p10_valueDown s) p (nI (b / Nat.gcd a b))) := by
  obtain ⟨o1, o2, _⟩ := red_nat a hb
  have ib : inb (nI p) 7 = true := inb_nI hp (by decide)
  unfold m_X10_gets
  rw [fraction10 s (rng_nat ra) hb (rng_nat rb), Option.bind_some, if_pos ib, if_pos ib, nI_clamp (by omega)]
  simp only [J_32, o1, o2, zI_nat]
theorem mean_same {sB wB st wt sS wS : Nat} (hB : 0 < wB) (ht : 0 < wt) (e : st * wB = sB * wt) (h : sB * wS ≤ sS * wB) : st * wS ≤ sS * wt ∧ (st * wS = sS * wt → sB * wS = sS * wB) := by
  have e1 : st * wS * wB = sB * wS * wt := by rw [Nat.mul_right_comm, e, Nat.mul_right_comm]
  have e2 : sS * wt * wB = sS * wB * wt := Nat.mul_right_comm _ _ _
  refine ⟨Nat.le_of_mul_le_mul_right (c := wB) ?_ hB, fun q => Nat.eq_of_mul_eq_mul_right ht ?_⟩
  · have := Nat.mul_le_mul_right wt h
    omega
  · rw [← e1, ← e2, q]
/-- the same values make a level, and the level's mean is the value -/
def lvR (A : Sh) (u d : Nat → Nat) (R p : Nat) : Nat := bs (fun q => !R.testBit q && decide (u q = u p ∧ d q = d p)) (hN A)
theorem lvR_bit {A : Sh} {u d : Nat → Nat} {R p q : Nat} : (lvR A u d R p).testBit q = true ↔ q < hN A ∧ ¬ R.testBit q = true ∧ u q = u p ∧ d q = d p := by
  unfold lvR
  rw [bs_bit, Bool.and_eq_true, Bool.and_eq_true, decide_eq_true_iff, decide_eq_true_iff, Bool.not_eq_true']
  cases R.testBit q <;> simp
def GL (A : Sh) (R : Nat) (u d : Nat → Nat) : Prop := ∀ p, p < hN A → ¬ R.testBit p = true → u p * wtS A (lvR A u d R p) = suS A (lvR A u d R p) * d p
theorem GL_step {A : Sh} {W R B : Nat} {u d u' d' : Nat → Nat} {x y : Nat} (hR : sub R (allS A)) (g : GI A W R u d) (l : GL A R u d) (hB : bestq A W R B) (k1 : ∀ p, p < hN A → ¬ R.testBit p = true → u' p = u p ∧ d' p = d p) (k2 : ∀ p, p < hN A → B.testBit p = true → u' p = x ∧ d' p = y) (e : x * wtS A B = suS A B * y) : GL A (dif R B) u' d' := by
  have out : ∀ p, ¬ (dif R B).testBit p = true ↔ ¬ R.testBit p = true ∨ B.testBit p = true := by
    intro p
    rw [dif_bitp]
    by_cases c : R.testBit p = true <;> by_cases c2 : B.testBit p = true <;> simp [c, c2]
  have apart : ∀ p, p < hN A → ¬ R.testBit p = true → ¬ (u p = x ∧ d p = y) := by
    intro p hp h ⟨a, b⟩
    have := g.2.2.2.1 p hp h B hB.1 hB.2.1 hB.2.2.1
    rw [a, b, e] at this
    omega
  intro p hp h
  by_cases c : B.testBit p = true
  · obtain ⟨e1, e2⟩ := k2 p hp c
    have eq : lvR A u' d' (dif R B) p = B := sub_eq (fun i hi => by
      rw [lvR_bit, out] at hi
      rcases hi.2.1 with w | w
      · rw [(k1 i hi.1 w).1, (k1 i hi.1 w).2, e1, e2] at hi
        exact absurd hi.2.2 (apart i hi.1 w)
      · exact w) (fun i hi => by
      have hn := allS_bit.mp (hR i (hB.1 i hi))
      obtain ⟨f1, f2⟩ := k2 i hn hi
      exact lvR_bit.mpr ⟨hn, (out i).mpr (Or.inr hi), by rw [f1, e1], by rw [f2, e2]⟩)
    rw [eq, e1, e2, e]
  · have nr := ((out p).mp h).resolve_right c
    have eq : lvR A u' d' (dif R B) p = lvR A u d R p := sub_eq (fun i hi => by
      rw [lvR_bit, out, (k1 p hp nr).1, (k1 p hp nr).2] at hi
      by_cases w : R.testBit i = true
      · have hb := hi.2.1.resolve_left (fun k => k w)
        obtain ⟨f1, f2⟩ := k2 i hi.1 hb
        rw [f1, f2] at hi
        exact absurd ⟨hi.2.2.1.symm, hi.2.2.2.symm⟩ (apart p hp nr)
      · rw [(k1 i hi.1 w).1, (k1 i hi.1 w).2] at hi
        exact lvR_bit.mpr ⟨hi.1, w, hi.2.2⟩) (fun i hi => by
      rw [lvR_bit] at hi
      refine lvR_bit.mpr ⟨hi.1, (out i).mpr (Or.inl hi.2.1), ?_⟩
      rw [(k1 i hi.1 hi.2.1).1, (k1 i hi.1 hi.2.1).2, (k1 p hp nr).1, (k1 p hp nr).2]
      exact hi.2.2)
    rw [eq, (k1 p hp nr).1, (k1 p hp nr).2]
    exact l p hp nr
def lev (A : Sh) (u d : Nat → Nat) (p : Nat) : Nat := bs (fun q => decide (u q = u p ∧ d q = d p)) (hN A)
def Lv (A : Sh) (u d : Nat → Nat) : Prop := ∀ p, p < hN A → u p * wtS A (lev A u d p) = suS A (lev A u d p) * d p
theorem GL_end {A : Sh} {u d : Nat → Nat} (l : GL A 0 u d) : Lv A u d := by
  intro p hp
  have e : lev A u d p = lvR A u d 0 p := bs_congr (fun q _ => by rw [Nat.zero_testBit, Bool.not_false, Bool.true_and])
  rw [e]
  exact l p hp (by rw [Nat.zero_testBit]; decide)
