/-! THE LINE: those of a place, the MIDDLE, the NUMBER of some -/
def ofPl (A : Sh) (v : Nat) : Nat := bs (fun p => decide (hP A p = v)) (hN A)
theorem ofPl_bit {A : Sh} {v p : Nat} (hp : p < hN A) : (ofPl A v).testBit p = true ↔ hP A p = v := by
  unfold ofPl
  rw [bs_bit, decide_eq_true hp, Bool.true_and, decide_eq_true_eq]
theorem ofPl_lt (A : Sh) (v : Nat) : ofPl A v < 2 ^ hN A := bs_lt _ _
theorem upl_bit {A : Sh} {v p : Nat} (hp : p < hN A) : (upto A v).testBit p = true ↔ mkA A p ≤ v := by
  unfold upto
  rw [bs_bit, decide_eq_true hp, Bool.true_and, decide_eq_true_eq]
theorem upto_lt (A : Sh) (v : Nat) : upto A v < 2 ^ hN A := bs_lt _ _
theorem papersAt8 {s : T8} {A : Sh} (h : SV8 s A) (hok : okS A) {v : Nat} (hv : v < 2 ^ 31) : m_X8_papersAt s (nI v) = some (nI (ofPl A v)) := by
  have n7 := hok.1.1
  obtain ⟨h1, h2, h3, h4⟩ := h
  have key : lp (fun z : Int32 × Int32 => m_X8_papersAt_l4 s (nI v) z.1 z.2) fu ((0 : Int32), (0 : Int32)) = some (nI (ofPl A v)) := by
    refine lp_for (fun k => (nI (bs (fun p => decide (hP A p = v)) k), nI k)) (hN A) (fun k hk => ?_) ?_ (by omega) rfl
    · obtain ⟨_, _, _, _, pb⟩ := hok.1.2 k hk
      simp only [m_X8_papersAt_l4]
      rw [h4, if_neg (nI_ge hk (by omega)), get_in (by omega) (by decide), Option.bind_some, h3 k hk, nI_1, bs_or]
      by_cases c : hP A k = v
      · rw [if_pos (by rw [c]), nI_shl1 _ (by omega), nI_or, if_pos (decide_eq_true c)]
      · rw [if_neg (fun x => c (nI_inj (by omega) hv x)), if_neg (by simp [c]), Nat.or_zero]
    · simp only [m_X8_papersAt_l4]
      rw [h4, if_pos (nI_le (Nat.le_refl _) (by omega))]
      rfl
  unfold m_X8_papersAt
  rw [key, Option.bind_some]
theorem ofPlace10 {s : T10} {A : Sh} (h : S10 s A) (hok : okS A) {v : Nat} (hv : v < 2 ^ 31) : m_X10_ofPlace s (nI v) = some (nI (ofPl A v)) := by
  have n7 := hok.1.1
  obtain ⟨h4, ⟨-, -, -, -, h3⟩, -⟩ := h
  have key : lp (fun z : Int32 × Int32 => m_X10_ofPlace_l4 s (nI v) z.1 z.2) fu ((0 : Int32), (0 : Int32)) = some (nI (ofPl A v)) := by
    refine lp_for (fun k => (nI (bs (fun p => decide (hP A p = v)) k), nI k)) (hN A) (fun k hk => ?_) ?_ (by omega) rfl
    · obtain ⟨_, _, _, _, pb⟩ := hok.1.2 k hk
      simp only [m_X10_ofPlace_l4]
      rw [h4, if_neg (nI_ge hk (by omega)), if_pos (inb_nI (by omega) (by decide)), nI_clamp (by omega), h3 k hk, nI_1, bs_or]
      by_cases c : hP A k = v
      · rw [if_pos (by rw [c]), nI_shl1 _ (by omega), nI_or, if_pos (decide_eq_true c)]
      · rw [if_neg (fun x => c (nI_inj (by omega) hv x)), if_neg (by simp [c]), Nat.or_zero, show (0 : Int32) = nI 0 from rfl, nI_or, Nat.or_zero]
    · simp only [m_X10_ofPlace_l4]
      rw [h4, if_pos (nI_le (Nat.le_refl _) (by omega))]
      rfl
  unfold m_X10_ofPlace
  rw [key, Option.bind_some]
/-- the MIDDLE of some, as far as k papers are looked at (200: none yet) -/
def midF (A : Sh) (S : Nat) : Nat → Nat
  | 0 => 200
  | k + 1 => if S.testBit k = true ∧ mkA A k < midF A S k ∧ wtS A S ≤ 2 * wtS A (S &&& upto A (mkA A k)) then mkA A k else midF A S k
def mid (A : Sh) (S : Nat) : Nat := midF A S (hN A)
theorem midF_in {A : Sh} (hok : okS A) (S : Nat) : ∀ k, k ≤ hN A → midF A S k = 200 ∨ midF A S k ≤ 118 := by
  intro k
  induction k with
  | zero => exact fun _ => Or.inl rfl
  | succ k ih =>
    intro hk
    have m := mkA_le hok (show k < hN A by omega)
    rw [midF]
    split
    · exact Or.inr m
    · exact ih (by omega)
theorem midF_mono (A : Sh) (S : Nat) {a b : Nat} (h : a ≤ b) : midF A S b ≤ midF A S a := by
  induction b with
  | zero => rw [show a = 0 by omega]; exact Nat.le_refl _
  | succ b ih =>
    rcases Nat.lt_or_ge a (b + 1) with q | q
    · refine Nat.le_trans ?_ (ih (by omega))
      rw [midF]
      split
      · rename_i c; exact Nat.le_of_lt c.2.1
      · exact Nat.le_refl _
    · rw [show a = b + 1 by omega]; exact Nat.le_refl _
theorem mid_le {A : Sh} (hok : okS A) {S : Nat} (hS : S < 2 ^ hN A) (h0 : S ≠ 0) : mid A S ≤ 118 := by
  obtain ⟨i, hi⟩ := bit_of_ne0 h0
  obtain ⟨p, hp, sp, best⟩ := fin_min (hN A) (fun p => S.testBit p = true) (fun p => -(mkA A p : Int)) ⟨i, bit_lt hS hi, hi⟩
  have all : S &&& upto A (mkA A p) = S := sub_eq (fun i h => (and_bit.mp h).1) (fun i h => and_bit.mpr ⟨h, by
    have hi := bit_lt hS h
    have := best i hi h
    rw [upl_bit hi]
    omega⟩)
  have m := mkA_le hok hp
  have e : midF A S (p + 1) ≤ mkA A p := by
    rw [midF]
    by_cases c : mkA A p < midF A S p
    · rw [if_pos ⟨sp, c, by rw [all]; omega⟩]
      exact Nat.le_refl _
    · split
      · exact Nat.le_refl _
      · omega
  exact Nat.le_trans (Nat.le_trans (midF_mono A S (show p + 1 ≤ hN A by omega)) e) m
def mI (x : Nat) : Int32 := if x = 200 then -1 else nI x
def mR (x : Nat) : Int32 := if x = 200 then -9 else nI x
theorem mI_0 : ∀ x, x < 119 → ¬ nI x < (0 : Int32) := by decide +kernel
theorem mR_9 : ∀ x, x < 119 → ¬ nI x = (-9 : Int32) := by decide +kernel
theorem middleOf8 {s : T8} {A : Sh} (h : SV8 s A) (hok : okS A) {S : Nat} (hS : S < 2 ^ hN A) (h0 : S ≠ 0) : m_X8_middleOf s (nI S) = some (nI (mid A S)) := by
  have n7 := hok.1.1
  have p7 := pow_le7 n7
  have wl := wtS_le hok S
  have ml := mid_le hok hS h0
  have key : lp (fun z : Int32 × Int32 => m_X8_middleOf_l11 s (nI S) (nI (wtS A S)) z.1 z.2) fu ((-1 : Int32), (0 : Int32)) = some (mI (mid A S)) := by
    refine lp_for (fun k => (mI (midF A S k), nI k)) (hN A) (fun k hk => ?_) ?_ (by omega) rfl
    · have m := mkA_le hok hk
      have f := midF_in hok S k (by omega)
      have wl2 := wtS_le hok (S &&& upto A (mkA A k))
      have mm : mI (mkA A k) = nI (mkA A k) := by
        unfold mI
        rw [if_neg (by omega)]
      have w : (if nI (2 * wtS A (S &&& upto A (mkA A k))) < nI (wtS A S) then some (Sum.inl (mI (midF A S k), nI (k + 1))) else some (Sum.inl (nI (mkA A k), nI (k + 1))) : Option ((Int32 × Int32) ⊕ Int32)) = if wtS A S ≤ 2 * wtS A (S &&& upto A (mkA A k)) then some (Sum.inl (nI (mkA A k), nI (k + 1))) else some (Sum.inl (mI (midF A S k), nI (k + 1))) := by
        by_cases c3 : wtS A S ≤ 2 * wtS A (S &&& upto A (mkA A k))
        · rw [if_neg (fun x => by have := (nI_lti (by omega) (by omega)).mp x; omega), if_pos c3]
        · rw [if_pos ((nI_lti (by omega) (by omega)).mpr (by omega)), if_neg c3]
      simp only [m_X8_middleOf_l11]
      rw [h.2.2.2, if_neg (nI_ge hk (by omega)), get_in (by omega) (by decide), Option.bind_some, h.1 k hk, midF]
      by_cases c1 : midF A S k = 200
      · have e1 : mI (midF A S k) < 0 := by
          unfold mI
          rw [if_pos c1]
          decide
        rw [if_pos e1, hasBit9 (by omega) (by omega), Option.bind_some, nI_1]
        by_cases c : S.testBit k = true
        · rw [if_pos c, if_neg (show ¬ (1 : Int32) = 0 by decide)]
          try rw [if_neg (show ¬ (1 : Int32) = 0 by decide)]
          rw [upTo8 h hok (by omega), Option.bind_some, nI_and, weightOf8 h hok (Nat.lt_of_le_of_lt Nat.and_le_left hS), Option.bind_some, show (2 : Int32) = nI 2 from rfl, nI_mul, w]
          by_cases c3 : wtS A S ≤ 2 * wtS A (S &&& upto A (mkA A k))
          · rw [if_pos c3, if_pos ⟨c, by omega, c3⟩, mm]
          · rw [if_neg c3, if_neg (fun x => c3 x.2.2)]
        · rw [if_neg c, if_pos rfl, if_neg (fun x => c x.1)]
      · have fe : mI (midF A S k) = nI (midF A S k) := by
          unfold mI
          rw [if_neg c1]
        rw [if_neg (show ¬ mI (midF A S k) < 0 by rw [fe]; exact mI_0 _ (by omega))]
        by_cases c2 : midF A S k ≤ mkA A k
        · rw [if_pos (show mI (midF A S k) ≤ nI (mkA A k) by rw [fe, nI_lei (by omega) (by omega)]; exact c2), Option.bind_some, hasBit9 (by omega) (by omega), Option.bind_some, nI_1]
          by_cases c : S.testBit k = true
          · rw [if_pos c, if_neg (show ¬ (1 : Int32) = 0 by decide), if_pos rfl, if_neg (fun x => by omega)]
          · rw [if_neg c, if_pos rfl, if_neg (fun x => c x.1)]
        · rw [if_neg (show ¬ mI (midF A S k) ≤ nI (mkA A k) by rw [fe, nI_lei (by omega) (by omega)]; exact c2), Option.bind_some, hasBit9 (by omega) (by omega), Option.bind_some, nI_1]
          by_cases c : S.testBit k = true
          · rw [if_pos c, if_neg (show ¬ (1 : Int32) = 0 by decide), if_neg (show ¬ (1 : Int32) = 0 by decide), upTo8 h hok (by omega), Option.bind_some, nI_and, weightOf8 h hok (Nat.lt_of_le_of_lt Nat.and_le_left hS), Option.bind_some, show (2 : Int32) = nI 2 from rfl, nI_mul, w]
            by_cases c3 : wtS A S ≤ 2 * wtS A (S &&& upto A (mkA A k))
            · rw [if_pos c3, if_pos ⟨c, by omega, c3⟩, mm]
            · rw [if_neg c3, if_neg (fun x => c3 x.2.2)]
          · rw [if_neg c, if_pos rfl, if_neg (fun x => c x.1)]
    · simp only [m_X8_middleOf_l11]
      rw [h.2.2.2, if_pos (nI_le (Nat.le_refl _) (by omega))]
      rfl
  unfold m_X8_middleOf
  rw [weightOf8 h hok hS, Option.bind_some, key, Option.bind_some]
  unfold mI
  rw [if_neg (by omega)]
theorem weightUpTo10 {s : T10} {A : Sh} (h : S10 s A) (hok : okS A) {S v : Nat} (hS : S < 2 ^ hN A) (hv : v < 2 ^ 31) : m_X10_weightUpTo s (nI S) (nI v) = some (nI (wtS A (S &&& upto A v))) := by
  have n7 := hok.1.1
  have p7 := pow_le7 n7
  have key : lp (fun z : Int32 × Int32 => m_X10_weightUpTo_l5 s (nI S) (nI v) z.1 z.2) fu ((0 : Int32), (0 : Int32)) = some (nI (wtS A (S &&& upto A v))) := by
    refine lp_for (fun k => (nI (sm (fun p => if (S &&& upto A v).testBit p = true then wtA A p else 0) k), nI k)) (hN A) (fun k hk => ?_) ?_ (by omega) rfl
    · have m := mkA_le hok hk
      simp only [m_X10_weightUpTo_l5]
      rw [h.1, if_neg (nI_ge hk (by omega)), has10 (by omega) (by omega), Option.bind_some, nI_1, sm]
      by_cases c : S.testBit k = true
      · rw [if_pos c, if_neg (by decide), mark10 h hok hk, Option.bind_some]
        by_cases c2 : mkA A k ≤ v
        · rw [if_neg (fun x => by have := (nI_lti hv (by omega)).mp x; omega), weight10 h hok hk, Option.bind_some, nI_add, if_pos (and_bit.mpr ⟨c, (upl_bit hk).mpr c2⟩)]
        · rw [if_pos ((nI_lti hv (by omega)).mpr (by omega)), if_neg (fun x => c2 ((upl_bit hk).mp (and_bit.mp x).2)), Int32.add_zero]
          rfl
      · rw [if_neg c, if_pos rfl, Int32.add_zero, if_neg (fun x => c (and_bit.mp x).1)]
        rfl
    · simp only [m_X10_weightUpTo_l5]
      rw [h.1, if_pos (nI_le (Nat.le_refl _) (by omega))]
      rfl
  unfold m_X10_weightUpTo
  rw [key, Option.bind_some]
theorem middleOf10 {s : T10} {A : Sh} (h : S10 s A) (hok : okS A) {S : Nat} (hS : S < 2 ^ hN A) (h0 : S ≠ 0) : m_X10_middleOf s (nI S) = some (nI (mid A S)) := by
  have n7 := hok.1.1
  have p7 := pow_le7 n7
  have wl := wtS_le hok S
  have ml := mid_le hok hS h0
  have key : lp (fun z : Int32 × Int32 => m_X10_middleOf_l12 s (nI S) (nI (wtS A S)) z.1 z.2) fu ((-9 : Int32), (0 : Int32)) = some (mR (mid A S)) := by
    refine lp_for (fun k => (mR (midF A S k), nI k)) (hN A) (fun k hk => ?_) ?_ (by omega) rfl
    · have m := mkA_le hok hk
      have f := midF_in hok S k (by omega)
      have wl2 := wtS_le hok (S &&& upto A (mkA A k))
      simp only [m_X10_middleOf_l12]
      rw [h.1, if_neg (nI_ge hk (by omega)), has10 (by omega) (by omega), Option.bind_some, nI_1, midF, mark10 h hok hk]
      repeat rw [Option.bind_some]
      rw [weightUpTo10 h hok hS (by omega)]
      repeat rw [Option.bind_some]
      rw [show (2 : Int32) = nI 2 from rfl, nI_mul]
      by_cases c : S.testBit k = true
      · rw [if_pos c, if_neg (by decide)]
        have e9 : mR (midF A S k) = -9 ↔ midF A S k = 200 := by
          unfold mR
          rcases f with f | f
          · rw [if_pos f]; exact ⟨fun _ => f, fun _ => rfl⟩
          · rw [if_neg (by omega)]; exact ⟨fun x => absurd x (mR_9 _ (by omega)), fun x => by omega⟩
        have w : (if nI (2 * wtS A (S &&& upto A (mkA A k))) < nI (wtS A S) then some (Sum.inl (mR (midF A S k), nI (k + 1))) else some (Sum.inl (nI (mkA A k), nI (k + 1))) : Option ((Int32 × Int32) ⊕ Int32)) = if wtS A S ≤ 2 * wtS A (S &&& upto A (mkA A k)) then some (Sum.inl (nI (mkA A k), nI (k + 1))) else some (Sum.inl (mR (midF A S k), nI (k + 1))) := by
          by_cases c3 : wtS A S ≤ 2 * wtS A (S &&& upto A (mkA A k))
          · rw [if_neg (fun x => by have := (nI_lti (by omega) (by omega)).mp x; omega), if_pos c3]
          · rw [if_pos ((nI_lti (by omega) (by omega)).mpr (by omega)), if_neg c3]
        rw [w]
        have mm : mR (mkA A k) = nI (mkA A k) := by unfold mR; rw [if_neg (by omega)]
        by_cases c1 : midF A S k = 200
        · rw [if_pos (e9.mpr c1)]
          by_cases c3 : wtS A S ≤ 2 * wtS A (S &&& upto A (mkA A k))
          · rw [if_pos c3, if_pos ⟨c, by omega, c3⟩, mm]
          · rw [if_neg c3, if_neg (fun x => c3 x.2.2)]
        · have fe : mR (midF A S k) = nI (midF A S k) := by unfold mR; rw [if_neg c1]
          rw [if_neg (fun x => c1 (e9.mp x))]
          by_cases c2 : midF A S k ≤ mkA A k
          · rw [if_pos (by rw [fe, nI_lei (by omega) (by omega)]; exact c2), if_neg (fun x => by omega)]
          · rw [if_neg (by rw [fe, nI_lei (by omega) (by omega)]; exact c2)]
            by_cases c3 : wtS A S ≤ 2 * wtS A (S &&& upto A (mkA A k))
            · rw [if_pos c3, if_pos ⟨c, by omega, c3⟩, mm]
            · rw [if_neg c3, if_neg (fun x => c3 x.2.2)]
      · rw [if_neg c, if_pos rfl, if_neg (fun x => c x.1)]
    · simp only [m_X10_middleOf_l12]
      rw [h.1, if_pos (nI_le (Nat.le_refl _) (by omega))]
      rfl
  unfold m_X10_middleOf
  rw [weightOf10 h hok hS, Option.bind_some, key, Option.bind_some]
  unfold mR
  rw [if_neg (by omega)]
/-- NUMBER of some, above and below the line -/
def nuU (A : Sh) (l S : Nat) : Nat := if l = 0 then suS A S else mid A S
def nuD (A : Sh) (l S : Nat) : Nat := if l = 0 then wtS A S else 1
theorem nu_in {A : Sh} (hok : okS A) (l : Nat) {S : Nat} (hS : S < 2 ^ hN A) (h0 : S ≠ 0) : 1 ≤ nuD A l S ∧ nuD A l S ≤ 126 ∧ nuU A l S ≤ 118 * nuD A l S := by
  unfold nuU nuD
  have wl := wtS_le hok S
  split
  · obtain ⟨i, hi⟩ := bit_of_ne0 h0
    exact ⟨wtS_pos hok (bit_lt hS hi) hi, wl, suS_le hok S⟩
  · exact ⟨Nat.le_refl 1, by decide, mid_le hok hS h0⟩
theorem top4 {s : T4} {A : Sh} (h : SV8 (p4_values s) A) (hok : okS A) {l S : Nat} (hl : l < 2) (e : p4_loss s = nI l) (hS : S < 2 ^ hN A) (h0 : S ≠ 0) : m_X4_numberTop s (nI S) = some (nI (nuU A l S)) := by
  unfold m_X4_numberTop nuU
  rw [e, sumOf8 h hok hS, middleOf8 h hok hS h0, Option.bind_some, Option.bind_some]
  rcases (show l = 0 ∨ l = 1 by omega) with rfl | rfl
  · rw [if_neg (by decide), if_pos rfl]
  · rw [if_pos (by decide), if_neg (by decide)]
theorem bottom4 {s : T4} {A : Sh} (h : SV8 (p4_values s) A) (hok : okS A) {l S : Nat} (hl : l < 2) (e : p4_loss s = nI l) (hS : S < 2 ^ hN A) : m_X4_numberBottom s (nI S) = some (nI (nuD A l S)) := by
  unfold m_X4_numberBottom nuD
  rw [e, weightOf8 h hok hS, Option.bind_some]
  rcases (show l = 0 ∨ l = 1 by omega) with rfl | rfl
  · rw [if_neg (by decide), if_pos rfl]
  · rw [if_pos (by decide), if_neg (by decide)]
    rfl
theorem number10 {s : T10} {A : Sh} (h : S10 s A) (hok : okS A) {l S : Nat} (hl : l < 2) (hS : S < 2 ^ hN A) (h0 : S ≠ 0) : m_X10_number s (nI l) (nI S) = some (nI (nuU A l S), nI (nuD A l S)) := by
  unfold m_X10_number nuU nuD
  rw [sumOf10 h hok hS, middleOf10 h hok hS h0, Option.bind_some, Option.bind_some]
  rcases (show l = 0 ∨ l = 1 by omega) with rfl | rfl
  · rw [if_pos (show nI 0 = 0 from rfl), if_pos rfl, if_pos rfl, Option.bind_some, if_pos (show nI 0 = 0 from rfl), weightOf10 (S10_mk h (by dsimp only [c10])) hok hS, Option.bind_some]
  · rw [if_neg (show ¬ nI 1 = 0 by decide), if_neg (show ¬ 1 = 0 by decide), if_neg (show ¬ 1 = 0 by decide), Option.bind_some, if_neg (show ¬ nI 1 = 0 by decide)]
    rfl
