/-! BLOCKS: how they begin, how they become one, told without a machine -/
/-- the least below k that is so; k: none -/
def fw (w : Nat → Bool) : Nat → Nat
  | 0 => 0
  | k + 1 => if fw w k < k then fw w k else if w k = true then k else k + 1
theorem fw_le (w : Nat → Bool) : ∀ k, fw w k ≤ k := by
  intro k
  induction k with
  | zero => exact Nat.le_refl 0
  | succ k ih =>
    rw [fw]
    split
    · omega
    · split <;> omega
theorem fw_no {w : Nat → Bool} : ∀ {k}, fw w k = k → ∀ j, j < k → w j = false := by
  intro k
  induction k with
  | zero => intro _ j hj; omega
  | succ k ih =>
    intro h j hj
    rw [fw] at h
    split at h
    · omega
    · have e : fw w k = k := by have := fw_le w k; omega
      split at h
      · omega
      · rename_i c
        rcases Nat.lt_or_ge j k with q | q
        · exact ih e j q
        · rw [show j = k by omega]; simpa using c
theorem fw_lt {w : Nat → Bool} : ∀ {k}, fw w k < k → w (fw w k) = true ∧ ∀ j, j < fw w k → w j = false := by
  intro k
  induction k with
  | zero => intro h; omega
  | succ k ih =>
    intro h
    rw [fw] at h ⊢
    split
    · rename_i c; exact ih c
    · rename_i c
      rw [if_neg c] at h
      have e : fw w k = k := by have := fw_le w k; omega
      split
      · rename_i c2; exact ⟨c2, fw_no e⟩
      · rename_i c2; rw [if_neg c2] at h; omega
theorem fw_at {w : Nat → Bool} {i : Nat} (h1 : w i = true) (h2 : ∀ j, j < i → w j = false) {k : Nat} (hk : i < k) : fw w k = i := by
  rcases Nat.lt_or_ge (fw w k) k with q | q
  · obtain ⟨a, b⟩ := fw_lt q
    rcases Nat.lt_trichotomy (fw w k) i with c | c | c
    · rw [h2 _ c] at a; cases a
    · exact c
    · have := b i c; rw [h1] at this; cases this
  · have := fw_no (w := w) (k := k) (by have := fw_le w k; omega) i hk
    rw [h1] at this; cases this
theorem fw_all {w : Nat → Bool} {k : Nat} (h : ∀ j, j < k → w j = false) : fw w k = k := by
  rcases Nat.lt_or_ge (fw w k) k with q | q
  · have := (fw_lt q).1
    rw [h _ q] at this; cases this
  · have := fw_le w k; omega
/-- ahead of another one: by place, then by mark -/
def ahd (A : Sh) (p q : Nat) : Bool := decide (hP A p < hP A q) || (decide (hP A p = hP A q) && decide (mkA A p < mkA A q))
/-- the first of some, of k papers (9: none yet) -/
def fiF (A : Sh) (R : Nat) : Nat → Nat
  | 0 => 9
  | k + 1 => if R.testBit k = true ∧ (fiF A R k = 9 ∨ ahd A k (fiF A R k) = true) then k else fiF A R k
def fiR (A : Sh) (R : Nat) : Nat := fiF A R (hN A)
theorem fiF_in {A : Sh} (hok : okS A) (R : Nat) : ∀ k, k ≤ hN A → (fiF A R k = 9 ∧ ∀ q, q < k → ¬ R.testBit q = true) ∨ (fiF A R k < k ∧ R.testBit (fiF A R k) = true ∧ ∀ q, q < k → R.testBit q = true → hP A (fiF A R k) ≤ hP A q) := by
  have n7 := hok.1.1
  intro k
  induction k with
  | zero => exact fun _ => Or.inl ⟨rfl, fun q hq => by omega⟩
  | succ k ih =>
    intro hk
    rw [fiF]
    by_cases c : R.testBit k = true
    · rcases ih (by omega) with ⟨i1, i2⟩ | ⟨i1, i2, i3⟩
      · rw [if_pos ⟨c, Or.inl i1⟩]
        refine Or.inr ⟨by omega, c, fun q hq hr => ?_⟩
        rcases Nat.lt_or_ge q k with w | w
        · exact absurd hr (i2 q w)
        · rw [show q = k by omega]; exact Nat.le_refl _
      · by_cases a : ahd A k (fiF A R k) = true
        · rw [if_pos ⟨c, Or.inr a⟩]
          refine Or.inr ⟨by omega, c, fun q hq hr => ?_⟩
          rcases Nat.lt_or_ge q k with w | w
          · have := i3 q w hr
            unfold ahd at a
            simp only [Bool.or_eq_true, Bool.and_eq_true, decide_eq_true_eq] at a
            omega
          · rw [show q = k by omega]; exact Nat.le_refl _
        · rw [if_neg (fun x => x.2.elim (fun y => by omega) a)]
          refine Or.inr ⟨by omega, i2, fun q hq hr => ?_⟩
          rcases Nat.lt_or_ge q k with w | w
          · exact i3 q w hr
          · rw [show q = k by omega]
            unfold ahd at a
            simp only [Bool.or_eq_true, Bool.and_eq_true, decide_eq_true_eq] at a
            omega
    · rw [if_neg (fun x => c x.1)]
      rcases ih (by omega) with ⟨i1, i2⟩ | ⟨i1, i2, i3⟩
      · refine Or.inl ⟨i1, fun q hq => ?_⟩
        rcases Nat.lt_or_ge q k with w | w
        · exact i2 q w
        · rw [show q = k by omega]; exact c
      · refine Or.inr ⟨by omega, i2, fun q hq hr => ?_⟩
        rcases Nat.lt_or_ge q k with w | w
        · exact i3 q w hr
        · rw [show q = k by omega] at hr; exact absurd hr c
theorem fiR_in {A : Sh} (hok : okS A) {R : Nat} (hR : R < 2 ^ hN A) (h0 : R ≠ 0) : fiR A R < hN A ∧ R.testBit (fiR A R) = true ∧ ∀ q, R.testBit q = true → hP A (fiR A R) ≤ hP A q := by
  obtain ⟨i, hi⟩ := bit_of_ne0 h0
  rcases fiF_in hok R (hN A) (Nat.le_refl _) with ⟨i1, i2⟩ | ⟨i1, i2, i3⟩
  · exact absurd hi (i2 i (bit_lt hR hi))
  · exact ⟨i1, i2, fun q hq => i3 q (bit_lt hR hq) hq⟩
/-- the papers that are left behind k blocks of one -/
def bR (A : Sh) : Nat → Nat
  | 0 => allS A
  | k + 1 => dif (bR A k) (2 ^ fiR A (bR A k))
theorem pcn_one : ∀ f, f < 7 → pcn (2 ^ f) = 1 := by decide +kernel
theorem pcn_full : ∀ n, n < 8 → pcn (2 ^ n - 1) = n := by decide +kernel
theorem p2_bit {f p : Nat} : (2 ^ f).testBit p = true ↔ f = p := by
  rw [Nat.testBit_two_pow, decide_eq_true_eq]
theorem bR_lt (A : Sh) : ∀ k, bR A k < 2 ^ hN A := by
  intro k
  induction k with
  | zero => exact allS_lt A
  | succ k ih => exact dif_lt ih
theorem bR_in {A : Sh} (hok : okS A) : ∀ k, k ≤ hN A → pcn (bR A k) = hN A - k ∧ ∀ p, p < hN A → ((bR A k).testBit p = true ↔ ∀ i, i < k → fiR A (bR A i) ≠ p) := by
  have n7 := hok.1.1
  intro k
  induction k with
  | zero => exact fun _ => ⟨pcn_full _ (by omega), fun p hp => ⟨fun _ i hi => by omega, fun _ => allS_bit.mpr hp⟩⟩
  | succ k ih =>
    intro hk
    obtain ⟨i1, i2⟩ := ih (by omega)
    have h0 : bR A k ≠ 0 := fun e => by
      rw [e] at i1
      have : pcn 0 = 0 := by decide +kernel
      omega
    obtain ⟨f1, f2, f3⟩ := fiR_in hok (bR_lt A k) h0
    refine ⟨?_, fun p hp => ?_⟩
    · have := pcn_two (U := bR A k) (S := bR A (k + 1)) (T := 2 ^ fiR A (bR A k)) (fun i hi => by
        rw [bR, dif_bitp, p2_bit]
        refine ⟨⟨fun h => ?_, fun h => ?_⟩, fun h => h.1.2 h.2⟩
        · by_cases c : fiR A (bR A k) = i
          · exact Or.inr c
          · exact Or.inl ⟨h, c⟩
        · rcases h with h | h
          · exact h.1
          · rw [← h]; exact f2)
      rw [pcn_one _ (by omega)] at this
      omega
    · rw [bR, dif_bitp, p2_bit, i2 p hp]
      refine ⟨fun h i hi => ?_, fun h => ⟨fun i hi => h i (by omega), h k (by omega)⟩⟩
      rcases Nat.lt_or_ge i k with w | w
      · exact h.1 i w
      · rw [show i = k by omega]; exact h.2
theorem bR_ne {A : Sh} (hok : okS A) {k : Nat} (hk : k < hN A) : bR A k ≠ 0 := fun e => by
  have := (bR_in hok k (by omega)).1
  rw [e] at this
  have : pcn 0 = 0 := by decide +kernel
  omega
theorem bR_end {A : Sh} (hok : okS A) : bR A (hN A) = 0 := by
  have := (bR_in hok (hN A) (Nat.le_refl _)).1
  exact pcn_0 _ (lt128 hok (bR_lt A _)) (by omega)
/-- blocks: the papers by a rank, cut -/
def BKS (A : Sh) (rk : Nat → Nat) (c : Nat) (g x : Nat → Nat) : Prop := c ≤ 7 ∧ x 0 = 0 ∧ (∀ i, i < c → x i ≤ x (i + 1)) ∧ (∀ p, p < hN A → rk p < x c) ∧ ∀ i, i < c → g i ≠ 0 ∧ g i < 2 ^ hN A ∧ ∀ p, p < hN A → ((g i).testBit p = true ↔ x i ≤ rk p ∧ rk p < x (i + 1))
def rkF (A : Sh) (p : Nat) : Nat := fw (fun i => decide (fiR A (bR A i) = p)) (hN A)
def bF (A : Sh) (i : Nat) : Nat := 2 ^ fiR A (bR A i)
theorem free_ok {A : Sh} (hok : okS A) : BKS A (rkF A) (hN A) (bF A) (fun i => i) := by
  have n7 := hok.1.1
  refine ⟨n7, rfl, fun i _ => Nat.le_succ i, fun p hp => ?_, fun i hi => ?_⟩
  · show rkF A p < hN A
    refine Classical.byContradiction fun h => ?_
    have e : rkF A p = hN A := by have := fw_le (fun i => decide (fiR A (bR A i) = p)) (hN A); unfold rkF at h ⊢; omega
    have z := ((bR_in hok (hN A) (Nat.le_refl _)).2 p hp).mpr (fun i hi => by
      have := fw_no e i hi
      simpa using this)
    rw [bR_end hok, Nat.zero_testBit] at z
    cases z
  · obtain ⟨f1, f2, f3⟩ := fiR_in hok (bR_lt A i) (bR_ne hok hi)
    have pp : 0 < 2 ^ fiR A (bR A i) := Nat.two_pow_pos _
    refine ⟨by unfold bF; omega, ?_, fun p hp => ?_⟩
    · unfold bF
      exact Nat.pow_lt_pow_right (by decide) f1
    · unfold bF
      rw [p2_bit]
      constructor
      · intro h
        have e : rkF A p = i := by
          unfold rkF
          refine fw_at (decide_eq_true h) (fun j hj => decide_eq_false ?_) hi
          have := ((bR_in hok i (by omega)).2 p hp).mp (by rw [← h]; exact f2)
          exact this j hj
        rw [e]
        exact ⟨Nat.le_refl i, Nat.lt_succ_self i⟩
      · rintro ⟨h1, h2⟩
        have h1' : i ≤ rkF A p := h1
        have h2' : rkF A p < i + 1 := h2
        have e : rkF A p = i := by omega
        have := (fw_lt (w := fun i => decide (fiR A (bR A i) = p)) (k := hN A) (by unfold rkF at e; omega)).1
        have := of_decide_eq_true this
        unfold rkF at e
        rw [e] at this
        exact this
/-- blocks of the places below one, their number and where they are cut -/
def bP (A : Sh) : Nat → Nat × (Nat → Nat) × (Nat → Nat)
  | 0 => (0, fun _ => 0, fun _ => 0)
  | k + 1 => if ofPl A k = 0 then bP A k else ((bP A k).1 + 1, (fun j => if j = (bP A k).1 then ofPl A k else (bP A k).2.1 j), fun j => if j = (bP A k).1 + 1 then k + 1 else (bP A k).2.2 j)
def blw (A : Sh) (k : Nat) : Nat := bs (fun p => decide (hP A p < k)) (hN A)
theorem blw_bit {A : Sh} {v p : Nat} (hp : p < hN A) : (blw A v).testBit p = true ↔ hP A p < v := by
  unfold blw
  rw [bs_bit, decide_eq_true hp, Bool.true_and, decide_eq_true_eq]
theorem blw_lt (A : Sh) (v : Nat) : blw A v < 2 ^ hN A := bs_lt _ _
theorem bP_in {A : Sh} (hok : okS A) : ∀ k, (bP A k).1 ≤ pcn (blw A k) ∧ (bP A k).2.2 0 = 0 ∧ (∀ i, i < (bP A k).1 → (bP A k).2.2 i ≤ (bP A k).2.2 (i + 1)) ∧ (bP A k).2.2 (bP A k).1 ≤ k ∧ (∀ p, p < hN A → hP A p < k → hP A p < (bP A k).2.2 (bP A k).1) ∧ ∀ i, i < (bP A k).1 → (bP A k).2.1 i ≠ 0 ∧ (bP A k).2.1 i < 2 ^ hN A ∧ ∀ p, p < hN A → (((bP A k).2.1 i).testBit p = true ↔ (bP A k).2.2 i ≤ hP A p ∧ hP A p < (bP A k).2.2 (i + 1)) := by
  intro k
  induction k with
  | zero => exact ⟨Nat.zero_le _, rfl, fun i hi => absurd hi (Nat.not_lt_zero i), Nat.le_refl 0, fun p _ h => absurd h (Nat.not_lt_zero _), fun i hi => absurd hi (Nat.not_lt_zero i)⟩
  | succ k ih =>
    obtain ⟨i1, i2, i3, i4, i5, i6⟩ := ih
    have two : pcn (blw A (k + 1)) = pcn (blw A k) + pcn (ofPl A k) := pcn_two (fun i hi => by
      by_cases q : i < hN A
      · rw [blw_bit q, blw_bit q, ofPl_bit q]
        omega
      · have z : ∀ {T}, T < 2 ^ hN A → ¬ T.testBit i = true := fun h x => q (bit_lt h x)
        exact ⟨⟨fun x => absurd x (z (blw_lt A _)), fun x => (x.elim (fun y => absurd y (z (blw_lt A _))) (fun y => absurd y (z (ofPl_lt A _))))⟩, fun x => z (blw_lt A _) x.1⟩)
    rw [bP]
    by_cases c : ofPl A k = 0
    · rw [if_pos c]
      have no : ∀ p, p < hN A → hP A p ≠ k := fun p hp e => by
        have := (ofPl_bit hp).mpr e
        rw [c, Nat.zero_testBit] at this
        cases this
      refine ⟨by omega, i2, i3, by omega, fun p hp h => i5 p hp (by have := no p hp; omega), i6⟩
    · rw [if_neg c]
      have pp : pcn (ofPl A k) ≠ 0 := fun e => c (pcn_0 _ (lt128 hok (ofPl_lt A k)) e)
      generalize bP A k = b at *
      obtain ⟨n, g, x⟩ := b
      simp only at *
      refine ⟨by omega, by rw [if_neg (by omega)]; exact i2, fun i hi => ?_, by rw [if_pos trivial]; exact Nat.le_refl _, fun p hp h => by rw [if_pos trivial]; exact h, fun i hi => ?_⟩
      · rw [if_neg (by omega)]
        rcases Nat.lt_or_ge i n with w | w
        · rw [if_neg (by omega)]; exact i3 i w
        · rw [show i = n by omega, if_pos rfl]; omega
      · rw [if_neg (show ¬ i = n + 1 by omega)]
        rcases Nat.lt_or_ge i n with w | w
        · rw [if_neg (by omega), if_neg (by omega)]; exact i6 i w
        · have e : i = n := by omega
          subst e
          rw [if_pos rfl, if_pos rfl]
          refine ⟨c, ofPl_lt A k, fun p hp => ?_⟩
          rw [ofPl_bit hp]
          have := i5 p hp
          omega
theorem places_ok {A : Sh} (hok : okS A) : BKS A (hP A) (bP A 10).1 (bP A 10).2.1 (bP A 10).2.2 := by
  obtain ⟨i1, i2, i3, i4, i5, i6⟩ := bP_in hok 10
  have := pcn_le _ (lt128 hok (blw_lt A 10))
  exact ⟨by omega, i2, i3, fun p hp => i5 p hp (by obtain ⟨_, _, _, _, pb⟩ := hok.1.2 p hp; omega), i6⟩
def begC (A : Sh) : Nat := if hT A = 0 then hN A else (bP A 10).1
def begG (A : Sh) : Nat → Nat := if hT A = 0 then bF A else (bP A 10).2.1
def begX (A : Sh) : Nat → Nat := if hT A = 0 then (fun i => i) else (bP A 10).2.2
def rkA (A : Sh) : Nat → Nat := if hT A = 0 then rkF A else hP A
theorem beg_ok {A : Sh} (hok : okS A) : BKS A (rkA A) (begC A) (begG A) (begX A) := by
  unfold begC begG begX rkA
  by_cases c : hT A = 0
  · rw [if_pos c, if_pos c, if_pos c, if_pos c]; exact free_ok hok
  · rw [if_neg c, if_neg c, if_neg c, if_neg c]; exact places_ok hok
/-- block i becomes one with the next -/
def mgG (g : Nat → Nat) (i j : Nat) : Nat := if j < i then g j else if j = i then g i ||| g (i + 1) else g (j + 1)
def mgX (x : Nat → Nat) (i j : Nat) : Nat := if j ≤ i then x j else x (j + 1)
theorem BKS_mg {A : Sh} {rk : Nat → Nat} {c i : Nat} {g x : Nat → Nat} (h : BKS A rk c g x) (hi : i + 1 < c) : BKS A rk (c - 1) (mgG g i) (mgX x i) := by
  obtain ⟨h1, h2, h3, h4, h5⟩ := h
  refine ⟨by omega, by unfold mgX; rw [if_pos (Nat.zero_le _)]; exact h2, fun j hj => ?_, fun p hp => ?_, fun j hj => ?_⟩
  · unfold mgX
    rcases Nat.lt_trichotomy j i with q | q | q
    · rw [if_pos (by omega), if_pos (by omega)]; exact h3 j (by omega)
    · rw [if_pos (by omega), if_neg (by omega)]
      exact Nat.le_trans (h3 j (by omega)) (h3 (j + 1) (by omega))
    · rw [if_neg (by omega), if_neg (by omega)]; exact h3 (j + 1) (by omega)
  · unfold mgX
    rw [if_neg (by omega), show c - 1 + 1 = c by omega]
    exact h4 p hp
  · unfold mgG mgX
    rcases Nat.lt_trichotomy j i with q | q | q
    · rw [if_pos q, if_pos (by omega), if_pos (by omega)]; exact h5 j (by omega)
    · subst q
      obtain ⟨a1, a2, a3⟩ := h5 j (by omega)
      obtain ⟨b1, b2, b3⟩ := h5 (j + 1) (by omega)
      have m1 := h3 j (by omega)
      have m2 := h3 (j + 1) (by omega)
      rw [if_neg (by omega), if_pos rfl, if_pos (Nat.le_refl _), if_neg (by omega)]
      refine ⟨fun e => ?_, or_lt a2 b2, fun p hp => ?_⟩
      · obtain ⟨y, hy⟩ := bit_of_ne0 a1
        have := or_bit.mpr (Or.inl hy : (g j).testBit y = true ∨ (g (j + 1)).testBit y = true)
        rw [e, Nat.zero_testBit] at this
        cases this
      · rw [or_bit, a3 p hp, b3 p hp]
        omega
    · rw [if_neg (by omega), if_neg (by omega), if_neg (by omega), if_neg (by omega)]
      exact h5 (j + 1) (by omega)
/-- the NUMBER is not below the next one's -/
def bad (A : Sh) (l : Nat) (g : Nat → Nat) (i : Nat) : Bool := decide (nuU A l (g (i + 1)) * nuD A l (g i) ≤ nuU A l (g i) * nuD A l (g (i + 1)))
def mgo (A : Sh) (l : Nat) : Nat → Nat → (Nat → Nat) → (Nat → Nat) → Nat × (Nat → Nat) × (Nat → Nat)
  | 0, c, g, x => (c, g, x)
  | k + 1, c, g, x => if fw (bad A l g) (c - 1) < c - 1 then mgo A l k (c - 1) (mgG g (fw (bad A l g) (c - 1))) (mgX x (fw (bad A l g) (c - 1))) else (c, g, x)
theorem mgo_ok {A : Sh} {rk : Nat → Nat} (l : Nat) : ∀ (k c : Nat) (g x : Nat → Nat), BKS A rk c g x → BKS A rk (mgo A l k c g x).1 (mgo A l k c g x).2.1 (mgo A l k c g x).2.2 ∧ (mgo A l k c g x).1 ≤ c := by
  intro k
  induction k with
  | zero => exact fun c g x h => ⟨h, Nat.le_refl c⟩
  | succ k ih =>
    intro c g x h
    rw [mgo]
    split
    · rename_i q
      obtain ⟨a, b⟩ := ih _ _ _ (BKS_mg h (show fw (bad A l g) (c - 1) + 1 < c by omega))
      exact ⟨a, by omega⟩
    · exact ⟨h, Nat.le_refl c⟩
def lnK (A : Sh) (l : Nat) : Nat × (Nat → Nat) × (Nat → Nat) := mgo A l 7 (begC A) (begG A) (begX A)
theorem lnK_ok {A : Sh} (hok : okS A) (l : Nat) : BKS A (rkA A) (lnK A l).1 (lnK A l).2.1 (lnK A l).2.2 ∧ (lnK A l).1 ≤ begC A := mgo_ok l 7 _ _ _ (beg_ok hok)
