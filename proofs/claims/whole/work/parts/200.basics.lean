/-! PLAIN FACTS for the mathematics: numbers, bits, sums, loops -/
-- loops
theorem lp_zero {σ ρ : Type} (f : σ → Option (σ ⊕ ρ)) (s : σ) : lp f 0 s = none := rfl
theorem lp_inl {σ ρ : Type} {f : σ → Option (σ ⊕ ρ)} {n : Nat} {s s' : σ} (h : f s = some (.inl s')) : lp f (n + 1) s = lp f n s' := by simp [lp, h]
theorem lp_inr {σ ρ : Type} {f : σ → Option (σ ⊕ ρ)} {n : Nat} {s : σ} {r : ρ} (h : f s = some (.inr r)) : lp f (n + 1) s = some r := by simp [lp, h]
theorem lp_go {σ ρ : Type} {f : σ → Option (σ ⊕ ρ)} (st : Nat → σ) {r : ρ} (N : Nat) (hs : ∀ k, k < N → f (st k) = some (.inl (st (k + 1)))) (he : f (st N) = some (.inr r)) : ∀ (d k fuel : Nat), k + d = N → d < fuel → lp f fuel (st k) = some r := by
  intro d
  induction d with
  | zero =>
    intro k fuel h1 h2
    obtain ⟨n, rfl⟩ : ∃ n, fuel = n + 1 := ⟨fuel - 1, by omega⟩
    rw [show k = N by omega]
    exact lp_inr he
  | succ d ih =>
    intro k fuel h1 h2
    obtain ⟨n, rfl⟩ : ∃ n, fuel = n + 1 := ⟨fuel - 1, by omega⟩
    rw [lp_inl (hs k (by omega))]
    exact ih (k + 1) n (by omega) (by omega)
/-- a loop that counts up, its states told one by one -/
theorem lp_for {σ ρ : Type} {f : σ → Option (σ ⊕ ρ)} (st : Nat → σ) {r : ρ} (N : Nat) (hs : ∀ k, k < N → f (st k) = some (.inl (st (k + 1)))) (he : f (st N) = some (.inr r)) (hN : N < 300) {s : σ} (h0 : s = st 0) : lp f fu s = some r := by
  subst h0
  exact lp_go st N hs he N 0 fu (by omega) hN
/-- a loop with an invariant and a measure -/
theorem lp_inv {σ ρ : Type} {f : σ → Option (σ ⊕ ρ)} (I : Nat → σ → Prop) (Q : ρ → Prop) (step : ∀ d s, I d s → (∃ d' s', f s = some (.inl s') ∧ d' < d ∧ I d' s') ∨ ∃ r, f s = some (.inr r) ∧ Q r) : ∀ (fuel d : Nat) (s : σ), I d s → d < fuel → ∃ r, lp f fuel s = some r ∧ Q r := by
  intro fuel
  induction fuel with
  | zero => intro d s _ h; omega
  | succ n ih =>
    intro d s hI hd
    rcases step d s hI with ⟨d', s', h1, h2, h3⟩ | ⟨r, h1, h2⟩
    · rw [lp_inl h1]
      exact ih d' s' h3 (by omega)
    · exact ⟨r, lp_inr h1, h2⟩
theorem lp_invf {σ ρ : Type} {f : σ → Option (σ ⊕ ρ)} (I : Nat → σ → Prop) (Q : ρ → Prop) (step : ∀ d s, I d s → (∃ d' s', f s = some (.inl s') ∧ d' < d ∧ I d' s') ∨ ∃ r, f s = some (.inr r) ∧ Q r) {d : Nat} {s : σ} (h : I d s) (hd : d < 300) : ∃ r, lp f fu s = some r ∧ Q r := lp_inv I Q step fu d s h hd
-- numbers
theorem nI_int {a : Nat} (h : a < 2 ^ 31) : (nI a).toInt = (a : Int) := nI_toInt h
theorem i_lt {x y : Int32} : x < y ↔ x.toInt < y.toInt := Int32.lt_iff_toInt_lt
theorem i_le {x y : Int32} : x ≤ y ↔ x.toInt ≤ y.toInt := Int32.le_iff_toInt_le
theorem i_eq {x y : Int32} : x = y ↔ x.toInt = y.toInt := Int32.toInt_inj.symm
theorem nI_ofInt {x : Int32} (h : 0 ≤ x.toInt) : x = nI x.toInt.toNat := by
  rw [← Int32.toInt_inj, nI_toInt]
  · omega
  · have := x.toInt_lt; omega
theorem inb_nI {i n : Nat} (h : i < n) (hn : n < 2 ^ 31) : inb (nI i) n = true := by
  unfold inb
  rw [decide_eq_true_eq, nI_toInt (by omega)]
  omega
theorem nI_mul (a b : Nat) : nI a * nI b = nI (a * b) := by
  apply Int32.toBitVec_inj.mp
  show BitVec.ofNat 32 a * BitVec.ofNat 32 b = BitVec.ofNat 32 (a * b)
  refine BitVec.eq_of_toNat_eq ?_
  rw [BitVec.toNat_mul]
  show a % 2 ^ 32 * (b % 2 ^ 32) % 2 ^ 32 = a * b % 2 ^ 32
  exact (Nat.mul_mod a b _).symm
theorem nI_and (a b : Nat) : nI a &&& nI b = nI (a &&& b) := by
  apply Int32.toBitVec_inj.mp
  show BitVec.ofNat 32 a &&& BitVec.ofNat 32 b = BitVec.ofNat 32 (a &&& b)
  exact BitVec.ofNat_and.symm
theorem nI_or (a b : Nat) : nI a ||| nI b = nI (a ||| b) := by
  apply Int32.toBitVec_inj.mp
  show BitVec.ofNat 32 a ||| BitVec.ofNat 32 b = BitVec.ofNat 32 (a ||| b)
  exact BitVec.ofNat_or.symm
theorem nI_xor (a b : Nat) : nI a ^^^ nI b = nI (a ^^^ b) := by
  apply Int32.toBitVec_inj.mp
  show BitVec.ofNat 32 a ^^^ BitVec.ofNat 32 b = BitVec.ofNat 32 (a ^^^ b)
  exact BitVec.ofNat_xor.symm
/-- what is in a and not in b -/
def dif (a b : Nat) : Nat := a ^^^ (a &&& b)
theorem nI_dif (a b : Nat) : nI a &&& (nI b ^^^ (-1 : Int32)) = nI (dif a b) := by
  unfold dif
  rw [← nI_xor, ← nI_and]
  apply Int32.toBitVec_inj.mp
  rw [Int32.toBitVec_and, Int32.toBitVec_xor, Int32.toBitVec_xor, Int32.toBitVec_and]
  refine BitVec.eq_of_getLsbD_eq (fun i hi => ?_)
  rw [BitVec.getLsbD_and, BitVec.getLsbD_xor, BitVec.getLsbD_xor, BitVec.getLsbD_and]
  have h1 : ∀ i, i < 32 → (Int32.toBitVec (-1)).getLsbD i = true := by decide +kernel
  rw [h1 i hi]
  cases (nI a).toBitVec.getLsbD i <;> cases (nI b).toBitVec.getLsbD i <;> rfl
theorem dif_bit (a b i : Nat) : (dif a b).testBit i = (a.testBit i && !b.testBit i) := by
  unfold dif
  rw [Nat.testBit_xor, Nat.testBit_and]
  cases a.testBit i <;> cases b.testBit i <;> rfl
theorem dif_le (a b : Nat) : dif a b ≤ a := by
  refine Nat.le_of_testBit ?_
  intro i h
  rw [dif_bit] at h
  simp at h
  exact h.1
theorem nI_shl1 : ∀ k, k < 31 → (1 : Int32) <<< (nI k &&& 31) = nI (2 ^ k) := by decide +kernel
theorem nI_sub {a b : Nat} (h : b ≤ a) : nI a - nI b = nI (a - b) := by
  have := nI_add (a - b) b
  rw [show a - b + b = a by omega] at this
  rw [← this]
  apply Int32.toBitVec_inj.mp
  rw [Int32.toBitVec_sub, Int32.toBitVec_add, BitVec.add_sub_cancel]
theorem nI_shr {s k : Nat} (hs : s < 2 ^ 31) (hk : k < 31) : nI s >>> (nI k &&& 31) = nI (s >>> k) := by
  have e : ∀ k, k < 31 → ((nI k &&& 31).toBitVec.smod 32).toNat = k := by decide +kernel
  apply Int32.toBitVec_inj.mp
  rw [Int32.toBitVec_shiftRight, BitVec.sshiftRight_eq', e k hk]
  refine BitVec.eq_of_toNat_eq ?_
  have hm : (nI s).toBitVec.msb = false := by
    rw [BitVec.msb_eq_decide]
    have : (nI s).toBitVec.toNat = s := by show s % 2 ^ 32 = s; omega
    rw [this]
    simp; omega
  have hs2 : (nI s).toBitVec.toNat = s := by show s % 2 ^ 32 = s; omega
  rw [BitVec.toNat_sshiftRight_of_msb_false hm, hs2]
  show s >>> k = (s >>> k) % 2 ^ 32
  rw [Nat.mod_eq_of_lt]
  have := Nat.shiftRight_le s k
  omega
theorem nI_bit {s k : Nat} (hs : s < 2 ^ 31) (hk : k < 31) : (nI s >>> (nI k &&& 31)) &&& 1 = (if s.testBit k then 1 else 0) := by
  rw [nI_shr hs hk, show (1 : Int32) = nI 1 from rfl, nI_and, Nat.and_one_is_mod]
  have : s.testBit k = ((s >>> k) % 2 == 1) := by
    rw [Nat.testBit, Nat.one_and_eq_mod_two]
    rcases Nat.mod_two_eq_zero_or_one (s >>> k) with h | h <;> rw [h] <;> rfl
  rw [this]
  rcases Nat.mod_two_eq_zero_or_one (s >>> k) with h | h <;> rw [h] <;> rfl
theorem hasBit9 {s k : Nat} (hs : s < 2 ^ 31) (hk : k < 31) : m_X9_hasBit (nI s) (nI k) = some (if s.testBit k then 1 else 0) := by
  unfold m_X9_hasBit
  rw [nI_bit hs hk]
  cases s.testBit k <;> rfl
theorem has10 {s k : Nat} (hs : s < 2 ^ 31) (hk : k < 31) : m_X10_has (nI s) (nI k) = some (if s.testBit k then 1 else 0) := by
  unfold m_X10_has
  rw [nI_bit hs hk]
  cases s.testBit k <;> rfl
-- sums
def sm (g : Nat → Nat) : Nat → Nat
  | 0 => 0
  | k + 1 => sm g k + g k
theorem sm_congr {g h : Nat → Nat} {n : Nat} (e : ∀ i, i < n → g i = h i) : sm g n = sm h n := by
  induction n with
  | zero => rfl
  | succ n ih => rw [sm, sm, ih (fun i hi => e i (by omega)), e n (by omega)]
theorem sm_le {g h : Nat → Nat} {n : Nat} (e : ∀ i, i < n → g i ≤ h i) : sm g n ≤ sm h n := by
  induction n with
  | zero => exact Nat.le_refl _
  | succ n ih => exact Nat.add_le_add (ih (fun i hi => e i (by omega))) (e n (by omega))
theorem sm_add (g h : Nat → Nat) (n : Nat) : sm (fun i => g i + h i) n = sm g n + sm h n := by
  induction n with
  | zero => rfl
  | succ n ih => simp only [sm, ih]; omega
theorem sm_mul (c : Nat) (g : Nat → Nat) (n : Nat) : sm (fun i => c * g i) n = c * sm g n := by
  induction n with
  | zero => rfl
  | succ n ih => simp only [sm, ih, Nat.mul_add]
theorem sm_const (c n : Nat) : sm (fun _ => c) n = c * n := by
  induction n with
  | zero => rfl
  | succ n ih => simp only [sm, ih, Nat.mul_succ]
theorem sm_zero {g : Nat → Nat} {n : Nat} (e : ∀ i, i < n → g i = 0) : sm g n = 0 := by
  rw [sm_congr (h := fun _ => 0) e, sm_const, Nat.zero_mul]
theorem sm_mono {g : Nat → Nat} {a b : Nat} (h : a ≤ b) : sm g a ≤ sm g b := by
  induction b with
  | zero => rw [show a = 0 by omega]; exact Nat.le_refl _
  | succ b ih =>
    rcases Nat.lt_or_ge a (b + 1) with q | q
    · exact Nat.le_trans (ih (by omega)) (Nat.le_add_right _ _)
    · rw [show a = b + 1 by omega]; exact Nat.le_refl _
theorem sm_pos {g : Nat → Nat} {n i : Nat} (hi : i < n) : g i ≤ sm g n := by
  have h := sm_mono (g := g) (show i + 1 ≤ n by omega)
  have h2 : g i ≤ sm g (i + 1) := Nat.le_add_left _ _
  omega
theorem sm_eq0 {g : Nat → Nat} {n : Nat} (h : sm g n = 0) : ∀ i, i < n → g i = 0 := fun i hi => by have := sm_pos (g := g) hi; omega
/-- the bits of those that are so -/
def bs (P : Nat → Bool) : Nat → Nat
  | 0 => 0
  | k + 1 => bs P k + (if P k then 2 ^ k else 0)
theorem bs_lt (P : Nat → Bool) (n : Nat) : bs P n < 2 ^ n := by
  induction n with
  | zero => exact Nat.zero_lt_one
  | succ n ih => rw [bs, Nat.pow_succ]; split <;> omega
theorem bs_or (P : Nat → Bool) (n : Nat) : bs P (n + 1) = bs P n ||| (if P n then 2 ^ n else 0) := by
  rw [bs]
  split
  · have h := Nat.two_pow_add_eq_or_of_lt (bs_lt P n) 1
    rw [Nat.mul_one] at h
    rw [Nat.add_comm, h, Nat.or_comm]
  · simp
theorem bs_bit (P : Nat → Bool) (n i : Nat) : (bs P n).testBit i = (decide (i < n) && P i) := by
  induction n with
  | zero => simp [bs]
  | succ n ih =>
    rw [bs_or, Nat.testBit_or, ih]
    by_cases hP : P n = true
    · rw [if_pos hP, Nat.testBit_two_pow]
      by_cases h : n = i
      · subst h; simp [hP]
      · have : (i < n + 1) = (i < n) := by apply propext; omega
        simp [h, this]
    · rw [if_neg hP, Nat.zero_testBit]
      by_cases h : n = i
      · subst h; simp [hP]
      · have : (i < n + 1) = (i < n) := by apply propext; omega
        simp [this]
theorem bits_ext {a b n : Nat} (ha : a < 2 ^ n) (hb : b < 2 ^ n) (h : ∀ i, i < n → a.testBit i = b.testBit i) : a = b := by
  refine Nat.eq_of_testBit_eq (fun i => ?_)
  by_cases hi : i < n
  · exact h i hi
  · have hp : 2 ^ n ≤ 2 ^ i := Nat.pow_le_pow_right (by decide) (by omega)
    rw [Nat.testBit_lt_two_pow (by omega), Nat.testBit_lt_two_pow (by omega)]
theorem or_lt {a b n : Nat} (ha : a < 2 ^ n) (hb : b < 2 ^ n) : a ||| b < 2 ^ n := Nat.or_lt_two_pow ha hb
theorem bit_lt {a n i : Nat} (ha : a < 2 ^ n) (h : a.testBit i = true) : i < n := by
  rcases Nat.lt_or_ge i n with q | q
  · exact q
  · have hp : 2 ^ n ≤ 2 ^ i := Nat.pow_le_pow_right (by decide) q
    rw [Nat.testBit_lt_two_pow (by omega)] at h
    cases h
theorem upd_at {f : Nat → Int32} {k : Nat} {x : Int32} : upd f k x k = x := by simp [upd]
theorem upd_ne {f : Nat → Int32} {k j : Nat} {x : Int32} (h : j ≠ k) : upd f k x j = f j := by simp [upd, h]
