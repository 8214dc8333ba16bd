/-! SETS OF PAPERS: sums over them, low sets, the greatest of the least -/
def sI (f : Nat → Int) (S : Nat) : Nat → Int
  | 0 => 0
  | k + 1 => sI f S k + (if S.testBit k = true then f k else 0)
theorem sI_congr {f g : Nat → Int} {S T : Nat} : ∀ {n : Nat}, (∀ i, i < n → (S.testBit i = true ↔ T.testBit i = true) ∧ (S.testBit i = true → f i = g i)) → sI f S n = sI g T n := by
  intro n
  induction n with
  | zero => intro _; rfl
  | succ n ih =>
    intro h
    rw [sI, sI, ih (fun i hi => h i (by omega))]
    obtain ⟨h1, h2⟩ := h n (by omega)
    by_cases c : S.testBit n = true
    · rw [if_pos c, if_pos (h1.mp c), h2 c]
    · rw [if_neg c, if_neg (fun k => c (h1.mpr k))]
/-- a set of two without a common one -/
theorem sI_two {f : Nat → Int} {S T U : Nat} : ∀ {n : Nat}, (∀ i, i < n → (U.testBit i = true ↔ S.testBit i = true ∨ T.testBit i = true) ∧ ¬ (S.testBit i = true ∧ T.testBit i = true)) → sI f U n = sI f S n + sI f T n := by
  intro n
  induction n with
  | zero => intro _; rfl
  | succ n ih =>
    intro h
    rw [sI, sI, sI, ih (fun i hi => h i (by omega))]
    obtain ⟨h1, h2⟩ := h n (by omega)
    by_cases c : S.testBit n = true
    · have c2 : ¬ T.testBit n = true := fun k => h2 ⟨c, k⟩
      rw [if_pos c, if_neg c2, if_pos (h1.mpr (Or.inl c))]
      omega
    · by_cases c2 : T.testBit n = true
      · rw [if_neg c, if_pos c2, if_pos (h1.mpr (Or.inr c2))]
        omega
      · rw [if_neg c, if_neg c2, if_neg (fun k => (h1.mp k).elim c c2)]
        omega
theorem sI_or (f : Nat → Int) (S T n : Nat) : sI f (S ||| T) n + sI f (S &&& T) n = sI f S n + sI f T n := by
  have h1 : sI f (S ||| T) n = sI f S n + sI f (dif T S) n := sI_two (fun i _ => by
    rw [or_bit, dif_bitp]
    by_cases c : S.testBit i = true <;> simp [c])
  have h2 : sI f T n = sI f (S &&& T) n + sI f (dif T S) n := sI_two (fun i _ => by
    rw [and_bit, dif_bitp]
    by_cases c : S.testBit i = true <;> simp [c])
  omega
theorem sI_dif (f : Nat → Int) (S T n : Nat) : sI f S n = sI f (S &&& T) n + sI f (dif S T) n := sI_two (fun i _ => by
  rw [and_bit, dif_bitp]
  by_cases c : T.testBit i = true <;> simp [c])
theorem sI_none {f : Nat → Int} {S : Nat} : ∀ {n : Nat}, (∀ i, i < n → ¬ S.testBit i = true) → sI f S n = 0 := by
  intro n
  induction n with
  | zero => intro _; rfl
  | succ n ih =>
    intro h
    rw [sI, ih (fun i hi => h i (by omega)), if_neg (h n (by omega))]
    rfl
theorem sI_zero (f : Nat → Int) (n : Nat) : sI f 0 n = 0 := sI_none (fun i _ => by rw [Nat.zero_testBit]; decide)
theorem sI_mono {f g : Nat → Int} {S : Nat} : ∀ {n : Nat}, (∀ i, i < n → S.testBit i = true → f i ≤ g i) → sI f S n ≤ sI g S n := by
  intro n
  induction n with
  | zero => intro _; exact Int.le_refl _
  | succ n ih =>
    intro h
    have h1 := ih (fun i hi => h i (by omega))
    rw [sI, sI]
    by_cases c : S.testBit n = true
    · have := h n (by omega) c
      rw [if_pos c, if_pos c]
      omega
    · rw [if_neg c, if_neg c]
      omega
theorem sI_const0 (S n : Nat) : sI (fun _ => 0) S n = 0 := by
  induction n with
  | zero => rfl
  | succ n ih => rw [sI, ih]; split <;> rfl
theorem sI_nonneg {f : Nat → Int} {S n : Nat} (h : ∀ i, i < n → S.testBit i = true → 0 ≤ f i) : 0 ≤ sI f S n := by
  have := sI_mono (f := fun _ => 0) (g := f) h
  rw [sI_const0] at this
  exact this
theorem sI_nonpos {f : Nat → Int} {S n : Nat} (h : ∀ i, i < n → S.testBit i = true → f i ≤ 0) : sI f S n ≤ 0 := by
  have := sI_mono (f := f) (g := fun _ => 0) h
  rw [sI_const0] at this
  exact this
theorem sI_pos {f : Nat → Int} {S : Nat} : ∀ {n i : Nat}, (∀ i, i < n → S.testBit i = true → 0 ≤ f i) → i < n → S.testBit i = true → 0 < f i → 0 < sI f S n := by
  intro n
  induction n with
  | zero => intro i _ hi; omega
  | succ n ih =>
    intro i h hi hS hf
    rw [sI]
    rcases Nat.lt_or_ge i n with q | q
    · have h1 := ih (fun j hj => h j (by omega)) q hS hf
      by_cases c : S.testBit n = true
      · have := h n (by omega) c
        rw [if_pos c]; omega
      · rw [if_neg c]; omega
    · have e : i = n := by omega
      rw [e] at hS hf
      have h1 := sI_nonneg (f := f) (S := S) (n := n) (fun j hj => h j (by omega))
      rw [if_pos hS]
      omega
theorem sI_lin (a b : Int) (f g : Nat → Int) (S n : Nat) : sI (fun i => a * f i + b * g i) S n = a * sI f S n + b * sI g S n := by
  induction n with
  | zero => simp [sI]
  | succ n ih =>
    rw [sI, sI, sI, ih]
    by_cases c : S.testBit n = true
    · rw [if_pos c, if_pos c, if_pos c, Int.mul_add, Int.mul_add]
      omega
    · rw [if_neg c, if_neg c, if_neg c]
      simp
theorem sI_sm (g : Nat → Nat) (S n : Nat) : ((sm (fun p => if S.testBit p = true then g p else 0) n : Nat) : Int) = sI (fun p => (g p : Int)) S n := by
  induction n with
  | zero => rfl
  | succ n ih =>
    rw [sm, sI, ← ih, Int.natCast_add]
    by_cases c : S.testBit n = true
    · rw [if_pos c, if_pos c]
    · rw [if_neg c, if_neg c]
      rfl
/-- one set lies in another -/
def sub (S R : Nat) : Prop := ∀ i, S.testBit i = true → R.testBit i = true
theorem sub_eq {S T : Nat} (h : sub S T) (k : sub T S) : S = T := by
  refine Nat.eq_of_testBit_eq (fun i => ?_)
  have h1 := h i
  have k1 := k i
  cases q1 : S.testBit i <;> cases q2 : T.testBit i <;> simp [q1, q2] at h1 k1 ⊢
theorem sub_le {S T : Nat} (h : sub S T) : S ≤ T := Nat.le_of_testBit (fun i => h i)
theorem sub_lt {S R n : Nat} (h : sub S R) (hR : R < 2 ^ n) : S < 2 ^ n := Nat.lt_of_le_of_lt (sub_le h) hR
theorem sub_or {S T R : Nat} (h : sub S R) (k : sub T R) : sub (S ||| T) R := fun i hi => (or_bit.mp hi).elim (h i) (k i)
theorem sub_and {S T R : Nat} (h : sub S R) : sub (S &&& T) R := fun i hi => h i (and_bit.mp hi).1
theorem sub_tr {S T R : Nat} (h : sub S T) (k : sub T R) : sub S R := fun i hi => k i (h i hi)
/-- all of the rest that is under one of a set is in it -/
def low (A : Sh) (W S R : Nat) : Prop := ∀ p q, S.testBit p = true → Und A W q p → R.testBit q = true → S.testBit q = true
theorem low_or {A : Sh} {W S T R : Nat} (h : low A W S R) (k : low A W T R) : low A W (S ||| T) R := fun p q hp hu hr => or_bit.mpr ((or_bit.mp hp).elim (fun a => Or.inl (h p q a hu hr)) (fun a => Or.inr (k p q a hu hr)))
theorem low_and {A : Sh} {W S T R : Nat} (h : low A W S R) (k : low A W T R) : low A W (S &&& T) R := fun p q hp hu hr => and_bit.mpr ⟨h p q (and_bit.mp hp).1 hu hr, k p q (and_bit.mp hp).2 hu hr⟩
theorem low_self (A : Sh) (W R : Nat) : low A W R R := fun _ _ _ _ hr => hr
theorem low_zero (A : Sh) (W R : Nat) : low A W 0 R := fun p q hp => by rw [Nat.zero_testBit] at hp; cases hp
/-- the low set of least sum that holds all others -/
def isT (A : Sh) (W R : Nat) (f : Nat → Int) (T : Nat) : Prop := sub T R ∧ low A W T R ∧ (∀ S, sub S R → low A W S R → sI f T (hN A) ≤ sI f S (hN A)) ∧ ∀ S, sub S R → low A W S R → sI f S (hN A) = sI f T (hN A) → sub S T
theorem isT_mono {A : Sh} {W R : Nat} {f f' : Nat → Int} {T T' : Nat} (h : isT A W R f T) (k : isT A W R f' T') (hf : ∀ i, i < hN A → f i ≤ f' i) : sub T' T := by
  have e1 := sI_or f T T' (hN A)
  have e2 := sI_dif f T' T (hN A)
  have e3 := sI_dif f' T' T (hN A)
  have e4 := sI_mono (f := f) (g := f') (S := dif T' T) (n := hN A) (fun i hi _ => hf i hi)
  have e5 := k.2.2.1 (T' &&& T) (sub_and k.1) (low_and k.2.1 h.2.1)
  have e6 : sI f (T &&& T') (hN A) = sI f (T' &&& T) (hN A) := by rw [Nat.and_comm]
  have e7 := h.2.2.1 (T ||| T') (sub_or h.1 k.1) (low_or h.2.1 k.2.1)
  have e8 := h.2.2.2 (T ||| T') (sub_or h.1 k.1) (low_or h.2.1 k.2.1) (by omega)
  exact fun i hi => e8 i (or_bit.mpr (Or.inr hi))
theorem isT_eq {A : Sh} {W R : Nat} {f : Nat → Int} {T T' : Nat} (h : isT A W R f T) (k : isT A W R f T') : T = T' := sub_eq (isT_mono k h (fun _ _ => Int.le_refl _)) (isT_mono h k (fun _ _ => Int.le_refl _))
theorem isT_congr {A : Sh} {W R : Nat} {f g : Nat → Int} {T : Nat} (h : isT A W R f T) (e : ∀ i, i < hN A → f i = g i) : isT A W R g T := by
  have q : ∀ S, sI g S (hN A) = sI f S (hN A) := fun S => sI_congr (fun i hi => ⟨Iff.rfl, fun _ => (e i hi).symm⟩)
  refine ⟨h.1, h.2.1, fun S h1 h2 => ?_, fun S h1 h2 h3 => h.2.2.2 S h1 h2 ?_⟩
  · rw [q, q]; exact h.2.2.1 S h1 h2
  · rw [← q, ← q]; exact h3
/-- weights and marks of a set -/
def wtS (A : Sh) (S : Nat) : Nat := sm (fun p => if S.testBit p = true then wtA A p else 0) (hN A)
def suS (A : Sh) (S : Nat) : Nat := sm (fun p => if S.testBit p = true then mkA A p * wtA A p else 0) (hN A)
theorem wtS_I (A : Sh) (S : Nat) : (wtS A S : Int) = sI (fun p => (wtA A p : Int)) S (hN A) := sI_sm _ S _
theorem suS_I (A : Sh) (S : Nat) : (suS A S : Int) = sI (fun p => ((mkA A p * wtA A p : Nat) : Int)) S (hN A) := sI_sm _ S _
/-- what a set is above c / b, all in all -/
def FF (A : Sh) (c b : Int) (p : Nat) : Int := b * ((mkA A p * wtA A p : Nat) : Int) + -c * (wtA A p : Int)
theorem FF_sum (A : Sh) (c b : Int) (S : Nat) : sI (FF A c b) S (hN A) = b * (suS A S : Int) - c * (wtS A S : Int) := by
  rw [wtS_I, suS_I]
  have := sI_lin b (-c) (fun p => ((mkA A p * wtA A p : Nat) : Int)) (fun p => (wtA A p : Int)) S (hN A)
  show sI (fun i => b * ((mkA A i * wtA A i : Nat) : Int) + -c * (wtA A i : Int)) S (hN A) = _
  rw [this, Int.neg_mul]
  omega
theorem wtS_pos {A : Sh} (hok : okS A) {S p : Nat} (hp : p < hN A) (h : S.testBit p = true) : 0 < wtS A S := by
  have h1 := sm_pos (g := fun p => if S.testBit p = true then wtA A p else 0) hp
  simp only [if_pos h] at h1
  have := wtA_in hok hp
  unfold wtS
  omega
theorem wtS_mono (A : Sh) {S T : Nat} (h : sub S T) : wtS A S ≤ wtS A T := sm_le (fun i _ => by
  by_cases c : S.testBit i = true
  · rw [if_pos c, if_pos (h i c)]; exact Nat.le_refl _
  · rw [if_neg c]; exact Nat.zero_le _)
theorem suS_mono (A : Sh) {S T : Nat} (h : sub S T) : suS A S ≤ suS A T := sm_le (fun i _ => by
  by_cases c : S.testBit i = true
  · rw [if_pos c, if_pos (h i c)]; exact Nat.le_refl _
  · rw [if_neg c]; exact Nat.zero_le _)
theorem bit_of_ne0 {S : Nat} (h : S ≠ 0) : ∃ i, S.testBit i = true := Classical.byContradiction fun k => h (Nat.eq_of_testBit_eq fun i => by
  rw [Nat.zero_testBit]
  cases q : S.testBit i with
  | false => rfl
  | true => exact absurd ⟨i, q⟩ k)
theorem wtS_le {A : Sh} (hok : okS A) (S : Nat) : wtS A S ≤ 126 := by
  have h : wtS A S ≤ sm (fun _ => 18) (hN A) := sm_le (fun i hi => by
    have := wtA_in hok hi
    split <;> omega)
  rw [sm_const] at h
  have := hok.1.1
  have : 18 * hN A ≤ 18 * 7 := Nat.mul_le_mul_left _ this
  omega
theorem suS_le {A : Sh} (hok : okS A) (S : Nat) : suS A S ≤ 118 * wtS A S := by
  have h : suS A S ≤ sm (fun p => 118 * (if S.testBit p = true then wtA A p else 0)) (hN A) := sm_le (fun i hi => by
    have := mkA_le hok hi
    by_cases c : S.testBit i = true
    · rw [if_pos c, if_pos c]
      exact Nat.mul_le_mul_right _ this
    · rw [if_neg c]; exact Nat.zero_le _)
  rw [sm_mul] at h
  exact h
