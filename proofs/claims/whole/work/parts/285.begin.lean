/-! BLOCKS at first: the class and the reference -/
theorem nI_z {a : Nat} (ha : a < 2 ^ 31) (h : ¬ a = 0) : ¬ nI a = (0 : Int32) := fun x => h (nI_inj (b := 0) ha (by decide) x)
theorem nI_two {a : Nat} (ha : a < 2 ^ 31) (h : ¬ a = 2) : ¬ nI a = (2 : Int32) := fun x => h (nI_inj (b := 2) ha (by decide) x)
theorem cmp6 {a b : Nat} (ha : a < 2 ^ 31) (hb : b < 2 ^ 31) : m_J6_compare_7cf53 (nI a) (nI b) = some (if a < b then -1 else if a = b then 0 else 1) := by
  unfold m_J6_compare_7cf53
  rcases Nat.lt_trichotomy a b with c | c | c
  · rw [if_neg (fun x => by have := (nI_lei hb ha).mp x; omega), if_pos c]
  · rw [if_pos ((nI_lei hb ha).mpr (by omega)), if_pos (by rw [c]), if_neg (by omega), if_pos c]
  · rw [if_pos ((nI_lei hb ha).mpr (by omega)), if_neg (fun x => by have := nI_inj ha hb x; omega), if_neg (by omega), if_neg (by omega)]
theorem hP_le {A : Sh} (hok : okS A) {p : Nat} (hp : p < hN A) : hP A p ≤ 9 := by
  obtain ⟨_, _, _, _, pb⟩ := hok.1.2 p hp
  exact pb
theorem isAhead4 {s : T4} {A : Sh} (h : SV8 (p4_values s) A) (hok : okS A) {p q : Nat} (hp : p < hN A) (hq : q < hN A) : m_X4_isAhead s (nI p) (nI q) = some (if ahd A p q = true then 1 else 0) := by
  have a1 := hP_le hok hp
  have a2 := hP_le hok hq
  have b1 := mkA_le hok hp
  have b2 := mkA_le hok hq
  unfold m_X4_isAhead ahd
  rw [placeAt8 h hok hp, Option.bind_some, placeAt8 h hok hq, Option.bind_some, cmp6 (by omega) (by omega), Option.bind_some]
  rcases Nat.lt_trichotomy (hP A p) (hP A q) with c | c | c
  · rw [if_pos c, if_pos (by decide), decide_eq_true c, Bool.true_or, if_pos rfl]
  · rw [if_neg (show ¬ hP A p < hP A q by omega), if_pos c, if_neg (by decide), if_pos rfl, markAt8 h hok hp, Option.bind_some, markAt8 h hok hq, Option.bind_some, decide_eq_false (show ¬ hP A p < hP A q by omega), decide_eq_true c, Bool.false_or, Bool.true_and]
    by_cases d : mkA A p < mkA A q
    · rw [if_neg (fun x => by have := (nI_lei (by omega) (by omega)).mp x; omega), decide_eq_true d, if_pos rfl]
    · rw [if_pos ((nI_lei (by omega) (by omega)).mpr (by omega)), decide_eq_false d, if_neg (by decide)]
  · rw [if_neg (show ¬ hP A p < hP A q by omega), if_neg (show ¬ hP A p = hP A q by omega), if_neg (by decide), if_neg (by decide), decide_eq_false (show ¬ hP A p < hP A q by omega), decide_eq_false (show ¬ hP A p = hP A q by omega), Bool.false_or, Bool.false_and, if_neg (by decide)]
def fI (f : Nat) : Int32 := if f = 9 then -1 else nI f
theorem fI_neg : ∀ f, f < 10 → (fI f < 0 ↔ f = 9) := by decide +kernel
theorem fiF_le {A : Sh} (hok : okS A) {R k : Nat} (hk : k ≤ hN A) : fiF A R k = 9 ∨ fiF A R k < hN A := by
  rcases fiF_in hok R k hk with ⟨i1, _⟩ | ⟨i1, _⟩
  · exact Or.inl i1
  · exact Or.inr (by omega)
theorem firstOf4 {s : T4} {A : Sh} (h : SV8 (p4_values s) A) (hok : okS A) {R : Nat} (hR : R < 2 ^ hN A) (h0 : R ≠ 0) : m_X4_firstOf s (nI R) = some (nI (fiR A R)) := by
  have n7 := hok.1.1
  have p7 := pow_le7 n7
  have key : lp (fun z : Int32 × Int32 => m_X4_firstOf_l4 s (nI R) z.1 z.2) fu ((-1 : Int32), (0 : Int32)) = some (fI (fiR A R)) := by
    refine lp_for (fun k => (fI (fiF A R k), nI k)) (hN A) (fun k hk => ?_) ?_ (by omega) rfl
    · have fl := fiF_le hok (R := R) (show k ≤ hN A by omega)
      have fk : fI k = nI k := by unfold fI; rw [if_neg (by omega)]
      simp only [m_X4_firstOf_l4, m_X8_paperCount]
      rw [Option.bind_some, h.2.2.2, if_neg (nI_ge hk (by omega)), hasBit9 (by omega) (by omega), Option.bind_some, nI_1, fiF]
      by_cases c : R.testBit k = true
      · rw [if_pos c, if_neg (by decide)]
        by_cases c9 : fiF A R k = 9
        · rw [if_pos ((fI_neg _ (by omega)).mpr c9), if_pos ⟨c, Or.inl c9⟩, fk]
        · have fe : fI (fiF A R k) = nI (fiF A R k) := by unfold fI; rw [if_neg c9]
          rw [if_neg (fun x => c9 ((fI_neg _ (by omega)).mp x)), fe, isAhead4 h hok hk (by omega), Option.bind_some]
          by_cases a : ahd A k (fiF A R k) = true
          · rw [if_pos a, if_neg (by decide), if_pos ⟨c, Or.inr a⟩, fk]
          · rw [if_neg a, if_pos rfl, if_neg (fun x => x.2.elim c9 a), fe]
      · rw [if_neg c, if_pos rfl, if_neg (fun x => c x.1)]
    · simp only [m_X4_firstOf_l4, m_X8_paperCount]
      rw [Option.bind_some, h.2.2.2, if_pos (nI_le (Nat.le_refl _) (by omega))]
      rfl
  have f := (fiR_in hok hR h0).1
  have fe : fI (fiR A R) = nI (fiR A R) := by unfold fI; rw [if_neg (by omega)]
  unfold m_X4_firstOf
  rw [key, Option.bind_some, fe, Option.bind_some, if_neg (nI_pos (by omega))]
theorem stand4 (s : T4) (f : Nat → Int32) {k : Nat} (hk : k < 7) (v : Int32) : m_X4_standBehind (u4_blocksNow (nI k) (u4_blocks f s)) v = some (upd f k v, nI (k + 1)) := by
  unfold m_X4_standBehind
  show (m_X2_set 7 f (nI k) v).bind (fun x1 => some (x1, nI k + 1)) = _
  rw [set_in hk (by decide), Option.bind_some, nI_1]
theorem oneByOne4 {s : T4} {A : Sh} (h : SV8 (p4_values s) A) (hok : okS A) (h0 : p4_blocksNow s = 0) : ∃ f, m_X4_standOneByOne s = some (f, nI (hN A)) ∧ Eqn f (bF A) (hN A) := by
  have n7 := hok.1.1
  have p7 := pow_le7 n7
  obtain ⟨r, e, f, rfl, q⟩ := lp_invf (f := fun z : Int32 × Int32 × (Nat → Int32) × Int32 => m_X4_standOneByOne_l10 s z.1 z.2.1 z.2.2.1 z.2.2.2) (I := fun d z => ∃ k f, k ≤ hN A ∧ d = hN A - k ∧ z = (nI (bR A k), nI k, f, nI k) ∧ Eqn f (bF A) k) (Q := fun r => ∃ f, r = (f, nI (hN A)) ∧ Eqn f (bF A) (hN A)) (d := hN A) (s := (nI (allS A), (0 : Int32), p4_blocks s, p4_blocksNow s)) (by
    rintro d z ⟨k, f, hk, hd, rfl, ef⟩
    rcases Nat.lt_or_ge k (hN A) with w | w
    · obtain ⟨f1, f2, f3⟩ := fiR_in hok (bR_lt A k) (bR_ne hok w)
      refine Or.inl ⟨hN A - (k + 1), (nI (bR A (k + 1)), nI (k + 1), upd f k (nI (bF A k)), nI (k + 1)), ?_, by omega, k + 1, _, by omega, rfl, rfl, Eqn_congr (Eqn_push ef (v := bF A k) rfl) (fun j hj => by by_cases y : j = k <;> simp [y])⟩
      show m_X4_standOneByOne_l10 s (nI (bR A k)) (nI k) f (nI k) = _
      unfold m_X4_standOneByOne_l10 m_X8_paperCount
      rw [Option.bind_some, h.2.2.2, if_neg (nI_ge w (by omega)), firstOf4 (s := u4_blocksNow (nI k) (u4_blocks f s)) h hok (bR_lt A k) (bR_ne hok w), Option.bind_some, stand4 s f (by omega), Option.bind_some, Option.bind_some, nI_shl1 _ (by omega), nI_dif, nI_1]
      rfl
    · refine Or.inr ⟨(f, nI k), ?_, f, by rw [show k = hN A by omega], by rw [show hN A = k by omega]; exact ef⟩
      show m_X4_standOneByOne_l10 s (nI (bR A k)) (nI k) f (nI k) = _
      unfold m_X4_standOneByOne_l10 m_X8_paperCount
      rw [Option.bind_some, h.2.2.2, if_pos (nI_le w (by omega))]) ⟨0, p4_blocks s, Nat.zero_le _, rfl, by rw [h0]; rfl, fun i hi => absurd hi (Nat.not_lt_zero i)⟩ (by omega)
  refine ⟨f, ?_, q⟩
  unfold m_X4_standOneByOne
  rw [allPapers8 h hok, Option.bind_some, e, Option.bind_some]
theorem bP_c {A : Sh} (hok : okS A) (k : Nat) : (bP A k).1 ≤ 7 := Nat.le_trans (bP_in hok k).1 (pcn_le _ (lt128 hok (blw_lt A k)))
theorem bP_push {A : Sh} (hok : okS A) {k : Nat} (h : ofPl A k ≠ 0) {f : Nat → Int32} (e : Eqn f (bP A k).2.1 (bP A k).1) : (bP A k).1 < 7 ∧ (bP A (k + 1)).1 = (bP A k).1 + 1 ∧ Eqn (upd f (bP A k).1 (nI (ofPl A k))) (bP A (k + 1)).2.1 ((bP A k).1 + 1) := by
  have c := bP_c hok (k + 1)
  have e1 : bP A (k + 1) = ((bP A k).1 + 1, (fun j => if j = (bP A k).1 then ofPl A k else (bP A k).2.1 j), fun j => if j = (bP A k).1 + 1 then k + 1 else (bP A k).2.2 j) := by
    rw [bP, if_neg h]
  rw [e1] at c ⊢
  exact ⟨c, rfl, Eqn_push e rfl⟩
theorem byPlaces4 {s : T4} {A : Sh} (h : SV8 (p4_values s) A) (hok : okS A) (h0 : p4_blocksNow s = 0) : ∃ f, m_X4_standByPlaces s = some (f, nI (bP A 10).1) ∧ Eqn f (bP A 10).2.1 (bP A 10).1 := by
  have n7 := hok.1.1
  have p7 := pow_le7 n7
  obtain ⟨r, e, f, rfl, q⟩ := lp_invf (f := fun z : Int32 × (Nat → Int32) × Int32 => m_X4_standByPlaces_l2 s z.1 z.2.1 z.2.2) (I := fun d z => ∃ k f, k ≤ 10 ∧ d = 10 - k ∧ z = (nI k, f, nI (bP A k).1) ∧ Eqn f (bP A k).2.1 (bP A k).1) (Q := fun r => ∃ f, r = (f, nI (bP A 10).1) ∧ Eqn f (bP A 10).2.1 (bP A 10).1) (d := 10) (s := ((0 : Int32), p4_blocks s, p4_blocksNow s)) (by
    rintro d z ⟨k, f, hk, hd, rfl, ef⟩
    have ol := ofPl_lt A k
    rcases Nat.lt_or_ge k 10 with w | w
    · refine Or.inl ?_
      by_cases c : ofPl A k = 0
      · have e1 : bP A (k + 1) = bP A k := by rw [bP, if_pos c]
        refine ⟨10 - (k + 1), (nI (k + 1), f, nI (bP A (k + 1)).1), ?_, by omega, k + 1, f, by omega, rfl, rfl, by rw [e1]; exact ef⟩
        show m_X4_standByPlaces_l2 s (nI k) f (nI (bP A k).1) = _
        unfold m_X4_standByPlaces_l2
        rw [if_neg (by rw [i_lt, nI_toInt (by omega), show (9 : Int32).toInt = 9 from rfl]; omega), papersAt8 h hok (by omega), Option.bind_some, c, if_pos (show nI 0 = 0 from rfl), nI_1, e1]
      · obtain ⟨b1, b2, b3⟩ := bP_push hok c ef
        refine ⟨10 - (k + 1), (nI (k + 1), upd f (bP A k).1 (nI (ofPl A k)), nI (bP A (k + 1)).1), ?_, by omega, k + 1, _, by omega, rfl, rfl, by rw [b2]; exact b3⟩
        show m_X4_standByPlaces_l2 s (nI k) f (nI (bP A k).1) = _
        unfold m_X4_standByPlaces_l2
        rw [if_neg (by rw [i_lt, nI_toInt (by omega), show (9 : Int32).toInt = 9 from rfl]; omega), papersAt8 h hok (by omega), Option.bind_some, if_neg (nI_z (by omega) c), stand4 s f b1, Option.bind_some, nI_1, b2]
    · have : k = 10 := by omega
      subst this
      refine Or.inr ⟨(f, nI (bP A 10).1), ?_, f, rfl, ef⟩
      show m_X4_standByPlaces_l2 s (nI 10) f (nI (bP A 10).1) = _
      unfold m_X4_standByPlaces_l2
      rw [if_pos (by decide)]) ⟨0, p4_blocks s, Nat.zero_le _, rfl, by rw [h0]; rfl, fun i hi => absurd hi (Nat.not_lt_zero i)⟩ (by decide)
  refine ⟨f, ?_, q⟩
  unfold m_X4_standByPlaces
  rw [e, Option.bind_some]
/-! the reference -/
theorem isAhead10 {s : T10} {A : Sh} (h : S10 s A) (hok : okS A) {p q : Nat} (hp : p < hN A) (hq : q < p) : m_X10_isAhead s (nI p) (nI q) = some (if ahd A p q = true then 1 else 0) := by
  have n7 := hok.1.1
  have a1 := hP_le hok hp
  have a2 := hP_le hok (show q < hN A by omega)
  have b1 := mkA_le hok hp
  have b2 := mkA_le hok (show q < hN A by omega)
  have i1 := inb_nI (show p < 7 by omega) (by decide)
  have i2 := inb_nI (show q < 7 by omega) (by decide)
  unfold m_X10_isAhead ahd
  simp only [if_pos i1, if_pos i2, nI_clamp (show p < 2 ^ 31 by omega), nI_clamp (show q < 2 ^ 31 by omega), h.2.1.2.2.2.2 p hp, h.2.1.2.2.2.2 q (show q < hN A by omega), mark10 h hok hp, mark10 h hok (show q < hN A by omega), Option.bind_some]
  rcases Nat.lt_trichotomy (hP A p) (hP A q) with c | c | c
  · rw [if_neg (fun x => by have := nI_inj (by omega) (by omega) x; omega), if_neg (fun x => by have := (nI_lei (by omega) (by omega)).mp x; omega), decide_eq_true c, Bool.true_or, if_pos rfl]
  · rw [if_pos (by rw [c]), decide_eq_false (show ¬ hP A p < hP A q by omega), decide_eq_true c, Bool.false_or, Bool.true_and]
    by_cases d : mkA A p = mkA A q
    · rw [if_pos (by rw [d]), if_pos ((nI_lei (by omega) (by omega)).mpr (by omega)), decide_eq_false (by omega), if_neg (by decide)]
    · rw [if_neg (fun x => d (nI_inj (by omega) (by omega) x))]
      by_cases d2 : mkA A p < mkA A q
      · rw [if_neg (fun x => by have := (nI_lei (by omega) (by omega)).mp x; omega), decide_eq_true d2, if_pos rfl]
      · rw [if_pos ((nI_lei (by omega) (by omega)).mpr (by omega)), decide_eq_false d2, if_neg (by decide)]
  · rw [if_neg (fun x => by have := nI_inj (by omega) (by omega) x; omega), if_pos ((nI_lei (by omega) (by omega)).mpr (by omega)), decide_eq_false (show ¬ hP A p < hP A q by omega), decide_eq_false (show ¬ hP A p = hP A q by omega), Bool.false_or, Bool.false_and, if_neg (by decide)]
def fR (f : Nat) : Int32 := if f = 9 then -9 else nI f
theorem fR_9 : ∀ f, f < 10 → (fR f = -9 ↔ f = 9) := by decide +kernel
theorem firstIn10 {s : T10} {A : Sh} (h : S10 s A) (hok : okS A) {R : Nat} (hR : R < 2 ^ hN A) (h0 : R ≠ 0) (f : Nat → Int32) (c : Int32) : lp (fun z : Int32 × Int32 => m_X10_begins_l23_2 s (nI R) f c z.1 z.2) fu ((-9 : Int32), (0 : Int32)) = some (nI (fiR A R)) := by
  have n7 := hok.1.1
  have p7 := pow_le7 n7
  have key : lp (fun z : Int32 × Int32 => m_X10_begins_l23_2 s (nI R) f c z.1 z.2) fu ((-9 : Int32), (0 : Int32)) = some (fR (fiR A R)) := by
    refine lp_for (fun k => (fR (fiF A R k), nI k)) (hN A) (fun k hk => ?_) ?_ (by omega) rfl
    · have fl := fiF_le hok (R := R) (show k ≤ hN A by omega)
      have fk : fR k = nI k := by unfold fR; rw [if_neg (by omega)]
      simp only [m_X10_begins_l23_2]
      rw [h.1, if_neg (nI_ge hk (by omega)), has10 (by omega) (by omega), Option.bind_some, nI_1, fiF]
      by_cases c : R.testBit k = true
      · rw [if_pos c, if_neg (by decide)]
        by_cases c9 : fiF A R k = 9
        · rw [if_pos ((fR_9 _ (by omega)).mpr c9), if_pos ⟨c, Or.inl c9⟩, fk]
        · have fe : fR (fiF A R k) = nI (fiF A R k) := by unfold fR; rw [if_neg c9]
          have fl2 : fiF A R k < k := by
            rcases fiF_in hok R k (by omega) with ⟨i1, _⟩ | ⟨i1, _⟩
            · exact absurd i1 c9
            · exact i1
          rw [if_neg (fun x => c9 ((fR_9 _ (by omega)).mp x)), fe, isAhead10 (S10_mk h (by dsimp only [c10])) hok hk fl2, Option.bind_some]
          by_cases a : ahd A k (fiF A R k) = true
          · rw [if_pos a, if_neg (by decide), if_pos ⟨c, Or.inr a⟩, fk]
          · rw [if_neg a, if_pos rfl, if_neg (fun x => x.2.elim c9 a), fe]
      · rw [if_neg c, if_pos rfl, if_neg (fun x => c x.1)]
    · simp only [m_X10_begins_l23_2]
      rw [h.1, if_pos (nI_le (Nat.le_refl _) (by omega))]
      rfl
  have f := (fiR_in hok hR h0).1
  rw [key]
  unfold fR
  rw [if_neg (by omega)]
theorem beginStep10 {s : T10} {A : Sh} (h : S10 s A) (hok : okS A) {R k B : Nat} (hR : R < 2 ^ hN A) (h0 : R ≠ 0) (hk : k < 7) (f : Nat → Int32) (hB : (hT A = 0 ∧ B = 2 ^ fiR A R) ∨ (hT A ≠ 0 ∧ B = ofPl A (hP A (fiR A R)))) : m_X10_begins_l14 s (nI R) f (nI k) = some (.inl (nI (dif R B), upd f k (nI B), nI (k + 1))) := by
  have n7 := hok.1.1
  have p7 := pow_le7 n7
  have t2 := hok.2.2.2
  obtain ⟨f1, f2, f3⟩ := fiR_in hok hR h0
  have pb := hP_le hok f1
  have i1 := inb_nI hk (by decide)
  have e : (if p10_ties s = 0 then some ((1 : Int32) <<< (nI (fiR A R) &&& 31)) else if inb (nI (fiR A R)) 7 = true then (m_X10_ofPlace (u10_blocks (nI k) (u10_block f s)) (p10_place s (nI (fiR A R)).toNatClampNeg)).bind (fun x26 => some x26) else none) = some (nI B) := by
    rw [h.2.2.2.2]
    rcases hB with ⟨t, rfl⟩ | ⟨t, rfl⟩
    · rw [t, if_pos (show nI 0 = 0 from rfl), nI_shl1 _ (by omega)]
    · rw [if_neg (nI_z (by omega) t), if_pos (inb_nI (by omega) (by decide)), nI_clamp (by omega), h.2.1.2.2.2.2 _ f1, ofPlace10 (S10_mk h (by dsimp only [c10])) hok (by omega), Option.bind_some]
  unfold m_X10_begins_l14
  rw [if_neg (nI_z (by omega) h0), firstIn10 h hok hR h0, Option.bind_some, e, Option.bind_some, if_pos i1, if_pos i1, Option.bind_some, nI_clamp (by omega), upd_at, nI_dif, nI_1]
def abv (A : Sh) (k : Nat) : Nat := bs (fun p => decide (k ≤ hP A p)) (hN A)
theorem abv_bit {A : Sh} {v p : Nat} (hp : p < hN A) : (abv A v).testBit p = true ↔ v ≤ hP A p := by
  unfold abv
  rw [bs_bit, decide_eq_true hp, Bool.true_and, decide_eq_true_eq]
theorem abv_lt (A : Sh) (v : Nat) : abv A v < 2 ^ hN A := bs_lt _ _
theorem bP_skip {A : Sh} {a : Nat} : ∀ {b}, a ≤ b → (∀ k, a ≤ k → k < b → ofPl A k = 0) → bP A b = bP A a := by
  intro b
  induction b with
  | zero => intro h _; rw [show a = 0 by omega]
  | succ b ih =>
    intro h no
    rcases Nat.lt_or_ge a (b + 1) with q | q
    · rw [bP, if_pos (no b (by omega) (by omega))]
      exact ih (by omega) (fun k k1 k2 => no k k1 (by omega))
    · rw [show a = b + 1 by omega]
theorem begins10 {s : T10} {A : Sh} (h : S10 s A) (hok : okS A) : ∃ f, m_X10_begins s = some (f, nI (begC A)) ∧ Eqn f (begG A) (begC A) := by
  have n7 := hok.1.1
  have p7 := pow_le7 n7
  have all : (some (((1 : Int32) <<< (p10_papers s &&& 31)) - 1) : Option Int32) = some (nI (allS A)) := by
    rw [h.1, nI_shl1 _ (by omega), show (1 : Int32) = nI 1 from rfl, nI_sub (Nat.two_pow_pos _)]
  by_cases t : hT A = 0
  · obtain ⟨r, e, f, rfl, q⟩ := lp_invf (f := fun z : Int32 × (Nat → Int32) × Int32 => m_X10_begins_l14 s z.1 z.2.1 z.2.2) (I := fun d z => ∃ k f, k ≤ hN A ∧ d = hN A - k ∧ z = (nI (bR A k), f, nI k) ∧ Eqn f (bF A) k) (Q := fun r => ∃ f, r = (f, nI (hN A)) ∧ Eqn f (bF A) (hN A)) (d := hN A) (s := (nI (allS A), p10_block s, (0 : Int32))) (by
      rintro d z ⟨k, f, hk, hd, rfl, ef⟩
      rcases Nat.lt_or_ge k (hN A) with w | w
      · exact Or.inl ⟨hN A - (k + 1), (nI (bR A (k + 1)), upd f k (nI (bF A k)), nI (k + 1)), beginStep10 h hok (bR_lt A k) (bR_ne hok w) (by omega) f (Or.inl ⟨t, rfl⟩), by omega, k + 1, _, by omega, rfl, rfl, Eqn_congr (Eqn_push ef (v := bF A k) rfl) (fun j hj => by by_cases y : j = k <;> simp [y])⟩
      · have : k = hN A := by omega
        subst this
        refine Or.inr ⟨(f, nI (hN A)), ?_, f, rfl, ef⟩
        show m_X10_begins_l14 s (nI (bR A (hN A))) f (nI (hN A)) = _
        unfold m_X10_begins_l14
        rw [bR_end hok, if_pos (show nI 0 = 0 from rfl)]) ⟨0, p10_block s, Nat.zero_le _, rfl, rfl, fun i hi => absurd hi (Nat.not_lt_zero i)⟩ (by omega)
    refine ⟨f, ?_, ?_⟩
    · unfold m_X10_begins begC
      rw [all, Option.bind_some, e, Option.bind_some, if_pos t]
    · unfold begC begG
      rw [if_pos t, if_pos t]
      exact q
  · obtain ⟨r, e, f, rfl, q⟩ := lp_invf (f := fun z : Int32 × (Nat → Int32) × Int32 => m_X10_begins_l14 s z.1 z.2.1 z.2.2) (I := fun d z => ∃ k f, k ≤ 10 ∧ d = 10 - k ∧ z = (nI (abv A k), f, nI (bP A k).1) ∧ Eqn f (bP A k).2.1 (bP A k).1) (Q := fun r => ∃ f, r = (f, nI (bP A 10).1) ∧ Eqn f (bP A 10).2.1 (bP A 10).1) (d := 10) (s := (nI (allS A), p10_block s, (0 : Int32))) (by
      rintro d z ⟨k, f, hk, hd, rfl, ef⟩
      by_cases c : abv A k = 0
      · have same : bP A 10 = bP A k := bP_skip hk (fun j k1 k2 => Classical.byContradiction fun n => by
          obtain ⟨i, hi⟩ := bit_of_ne0 n
          have hin := bit_lt (ofPl_lt A j) hi
          have := (abv_bit (v := k) hin).mpr (by have := (ofPl_bit hin).mp hi; omega)
          rw [c, Nat.zero_testBit] at this
          cases this)
        refine Or.inr ⟨(f, nI (bP A k).1), ?_, f, by rw [same], by rw [same]; exact ef⟩
        show m_X10_begins_l14 s (nI (abv A k)) f (nI (bP A k).1) = _
        unfold m_X10_begins_l14
        rw [c, if_pos (show nI 0 = 0 from rfl)]
      · obtain ⟨f1, f2, f3⟩ := fiR_in hok (abv_lt A k) c
        have pb := hP_le hok f1
        have kf := (abv_bit f1).mp f2
        generalize hv : hP A (fiR A (abv A k)) = v at *
        have same : bP A v = bP A k := bP_skip kf (fun j k1 k2 => Classical.byContradiction fun n => by
          obtain ⟨i, hi⟩ := bit_of_ne0 n
          have hin := bit_lt (ofPl_lt A j) hi
          have hj := (ofPl_bit hin).mp hi
          have := f3 i ((abv_bit hin).mpr (by omega))
          omega)
        have ne : ofPl A v ≠ 0 := fun z => by
          have := (ofPl_bit (v := v) f1).mpr hv
          rw [z, Nat.zero_testBit] at this
          cases this
        rw [← same] at ef ⊢
        obtain ⟨b1, b2, b3⟩ := bP_push hok ne ef
        have nx : dif (abv A k) (ofPl A v) = abv A (v + 1) := bits_ext (dif_lt (abv_lt A k)) (abv_lt A (v + 1)) (fun i hi => by
          apply Bool.eq_iff_iff.mpr
          rw [dif_bitp, abv_bit hi, abv_bit hi, ofPl_bit hi]
          refine ⟨fun h => ?_, fun h => by omega⟩
          have := f3 i ((abv_bit hi).mpr h.1)
          omega)
        refine Or.inl ⟨10 - (v + 1), (nI (abv A (v + 1)), upd f (bP A v).1 (nI (ofPl A v)), nI (bP A (v + 1)).1), ?_, by omega, v + 1, _, by omega, rfl, rfl, by rw [b2]; exact b3⟩
        rw [← nx, b2]
        exact beginStep10 h hok (abv_lt A k) c b1 f (Or.inr ⟨t, by rw [hv]⟩)) ⟨0, p10_block s, Nat.zero_le _, rfl, by
          have : abv A 0 = allS A := bits_ext (abv_lt A 0) (allS_lt A) (fun i hi => by
            apply Bool.eq_iff_iff.mpr
            rw [abv_bit hi, allS_bit]
            omega)
          rw [this]; rfl, fun i hi => absurd hi (Nat.not_lt_zero i)⟩ (by decide)
    refine ⟨f, ?_, ?_⟩
    · unfold m_X10_begins begC
      rw [all, Option.bind_some, e, Option.bind_some, if_neg t]
    · unfold begC begG
      rw [if_neg t, if_neg t]
      exact q
