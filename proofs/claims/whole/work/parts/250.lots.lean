/-! lots: pooled papers; draws of both -/
def plo (A : Sh) (b : Nat → Bool) : Nat → Nat
  | 0 => 0
  | k + 1 => if b k = true then plo A b k ||| (2 ^ hL A k ||| 2 ^ hO A k) else plo A b k
theorem plo_lt {A : Sh} (hok : okS A) (b : Nat → Bool) : ∀ k, k ≤ hU A → plo A b k < 2 ^ hN A := by
  intro k
  induction k with
  | zero => intro _; exact Nat.two_pow_pos _
  | succ k ih =>
    intro hk
    obtain ⟨k1, k2, k3⟩ := hok.2.1.2 k (by omega)
    rw [plo]
    split
    · exact or_lt (ih (by omega)) (or_lt (Nat.pow_lt_pow_right (by decide) k1) (Nat.pow_lt_pow_right (by decide) k2))
    · exact ih (by omega)
theorem plo_bit {A : Sh} (b : Nat → Bool) (p : Nat) : ∀ k, (plo A b k).testBit p = true ↔ ∃ r, r < k ∧ b r = true ∧ (hL A r = p ∨ hO A r = p) := by
  intro k
  induction k with
  | zero =>
    rw [plo, Nat.zero_testBit]
    exact ⟨fun h => (by cases h), fun ⟨r, h, _⟩ => absurd h (Nat.not_lt_zero r)⟩
  | succ k ih =>
    rw [plo]
    by_cases c : b k = true
    · rw [if_pos c, or_bit, or_bit, pow_bit, pow_bit, ih]
      constructor
      · rintro (⟨r, h1, h2⟩ | h | h)
        · exact ⟨r, by omega, h2⟩
        · exact ⟨k, by omega, c, Or.inl h.symm⟩
        · exact ⟨k, by omega, c, Or.inr h.symm⟩
      · rintro ⟨r, h1, h2, h3⟩
        rcases Nat.lt_or_ge r k with w | w
        · exact Or.inl ⟨r, w, h2, h3⟩
        · rw [show r = k by omega] at h3
          exact Or.inr (h3.imp Eq.symm Eq.symm)
    · rw [if_neg c, ih]
      constructor
      · rintro ⟨r, h1, h2⟩
        exact ⟨r, by omega, h2⟩
      · rintro ⟨r, h1, h2, h3⟩
        rcases Nat.lt_or_ge r k with w | w
        · exact ⟨r, w, h2, h3⟩
        · rw [show r = k by omega] at h2
          exact absurd h2 c
theorem pst_sub (A : Sh) (b : Nat → Bool) (X r : Nat) : sub X (pst A b X r) := by
  intro i hi
  unfold pst
  split
  · exact or_bit.mpr (Or.inl hi)
  · exact hi
theorem pal_sub (A : Sh) (b : Nat → Bool) (X : Nat) {k m : Nat} (h : k ≤ m) : sub (pal A b X k) (pal A b X m) := by
  induction m with
  | zero => rw [show k = 0 by omega]; exact fun i hi => hi
  | succ m ih =>
    rcases Nat.lt_or_ge k (m + 1) with w | w
    · exact sub_tr (ih (by omega)) (pst_sub A b _ m)
    · rw [show k = m + 1 by omega]; exact fun i hi => hi
theorem prd_sub (A : Sh) (b : Nat → Bool) (X : Nat) {k m : Nat} (h : k ≤ m) : sub (prd A b X k) (prd A b X m) := by
  induction m with
  | zero => rw [show k = 0 by omega]; exact fun i hi => hi
  | succ m ih =>
    rcases Nat.lt_or_ge k (m + 1) with w | w
    · exact sub_tr (ih (by omega)) (pal_sub A b (prd A b X m) (Nat.zero_le (hU A)))
    · rw [show k = m + 1 by omega]; exact fun i hi => hi
theorem pool_alone {A : Sh} (hok : okS A) (b : Nat → Bool) {p : Nat} (hp : p < hN A) : prd A b (2 ^ p) (hN A) = 2 ^ p ↔ ¬ (plo A b (hU A)).testBit p = true := by
  rw [plo_bit]
  constructor
  · rintro e ⟨r, h1, h2, h3⟩
    obtain ⟨k1, k2, k3⟩ := hok.2.1.2 r h1
    have s1 : sub (pal A b (2 ^ p) (r + 1)) (prd A b (2 ^ p) (hN A)) := sub_tr (pal_sub A b (2 ^ p) (show r + 1 ≤ hU A by omega)) (prd_sub A b (2 ^ p) (show 1 ≤ hN A by omega))
    have s0 : (pal A b (2 ^ p) r).testBit p = true := pal_sub A b (2 ^ p) (Nat.zero_le r) p (pow_bit.mpr rfl)
    have both' : (pal A b (2 ^ p) (r + 1)).testBit (hL A r) = true ∧ (pal A b (2 ^ p) (r + 1)).testBit (hO A r) = true := by
      rw [pal]
      unfold pst
      have c : (b r && ((pal A b (2 ^ p) r).testBit (hL A r) || (pal A b (2 ^ p) r).testBit (hO A r))) = true := by
        rw [Bool.and_eq_true, Bool.or_eq_true]
        refine ⟨h2, h3.imp (fun h => ?_) (fun h => ?_)⟩
        · rw [h]; exact s0
        · rw [h]; exact s0
      rw [if_pos c]
      exact ⟨or_bit.mpr (Or.inr (or_bit.mpr (Or.inl (pow_bit.mpr rfl)))), or_bit.mpr (Or.inr (or_bit.mpr (Or.inr (pow_bit.mpr rfl))))⟩
    have a1 := s1 _ both'.1
    have a2 := s1 _ both'.2
    rw [e] at a1 a2
    have := pow_bit.mp a1
    have := pow_bit.mp a2
    omega
  · intro no
    have st : ∀ k, k ≤ hU A → pal A b (2 ^ p) k = 2 ^ p := by
      intro k
      induction k with
      | zero => intro _; rfl
      | succ k ih =>
        intro hk
        rw [pal, ih (by omega)]
        unfold pst
        rw [if_neg]
        rw [Bool.and_eq_true, Bool.or_eq_true, pow_bit, pow_bit]
        exact fun h => no ⟨k, by omega, h.1, h.2⟩
    have : ∀ k, prd A b (2 ^ p) k = 2 ^ p := by
      intro k
      induction k with
      | zero => rfl
      | succ k ih => rw [prd, ih, st (hU A) (Nat.le_refl _)]
    exact this (hN A)
theorem pooled8 {s : T8} {t : T6} {A : Sh} {u d : Nat → Nat} (hok : okS A) (h : V9 s A u d) (h6 : S6 t A) : m_X8_pooledPapers s t = some (nI (pcn (plo A (sme A u d) (hU A)))) := by
  have n7 := hok.1.1
  have n12 := hok.2.1.1
  have key : lp (fun z : Int32 × Int32 => m_X8_pooledPapers_l4 s t z.1 z.2) fu ((0 : Int32), (0 : Int32)) = some (nI (plo A (sme A u d) (hU A))) := by
    refine lp_for (fun k => (nI (plo A (sme A u d) k), nI k)) (hU A) (fun k hk => ?_) ?_ (by omega) rfl
    · obtain ⟨k1, k2, k3⟩ := hok.2.1.2 k hk
      simp only [m_X8_pooledPapers_l4, m_X6_ruleCount]
      rw [Option.bind_some, h6.2.2.1.1, if_neg (nI_ge hk (by omega)), bind8 hok h h6 hk, Option.bind_some, nI_1]
      show _ = some (Sum.inl (nI (if sme A u d k = true then plo A (sme A u d) k ||| (2 ^ hL A k ||| 2 ^ hO A k) else plo A (sme A u d) k), nI (k + 1)))
      by_cases c : sme A u d k = true
      · rw [if_pos c, if_neg (by decide), lowerOf6 h6 hok hk, Option.bind_some, upperOf6 h6 hok hk, Option.bind_some, nI_shl1 _ (by omega), nI_shl1 _ (by omega), nI_or, nI_or, Option.bind_some, if_pos c]
      · rw [if_neg c, if_pos rfl, if_neg c]
    · simp only [m_X8_pooledPapers_l4, m_X6_ruleCount]
      rw [Option.bind_some, h6.2.2.1.1, if_pos (nI_le (Nat.le_refl _) (by omega))]
  unfold m_X8_pooledPapers
  rw [key, Option.bind_some, bc7 _ (lt128 hok (plo_lt hok _ (hU A) (Nat.le_refl _))), Option.bind_some]
theorem inPools10 {s : T10} {A : Sh} (h : S10 s A) (hok : okS A) : ∃ q : T5r, m_X10_inPools s = some (nI (pcn (plo A (sme A (vU A 0 0) (vD A 0 0)) (hU A))), q) := by
  have n7 := hok.1.1
  have p7 := pow_le7 n7
  obtain ⟨q, q1, q2⟩ := rules10 h hok (l := 0) (by decide)
  have q1' : m_X10_values s 0 (nI (2 ^ hU A - 1)) = some q := q1
  have lt := plo_lt hok (sme A (vU A 0 0) (vD A 0 0)) (hU A) (Nat.le_refl _)
  have ct : pcn (plo A (sme A (vU A 0 0) (vD A 0 0)) (hU A)) = sm (fun p => if (plo A (sme A (vU A 0 0) (vD A 0 0)) (hU A)).testBit p = true then 1 else 0) (hN A) := by
    unfold pcn
    exact sm_trunc n7 (fun i hi => if_neg (fun k => by have := bit_lt lt k; omega))
  have key : lp (fun z : Int32 × Int32 => m_X10_inPools_l13 s q z.1 z.2) fu ((0 : Int32), (0 : Int32)) = some (nI (pcn (plo A (sme A (vU A 0 0) (vD A 0 0)) (hU A)))) := by
    rw [ct]
    refine lp_for (fun k => (nI (sm (fun p => if (plo A (sme A (vU A 0 0) (vD A 0 0)) (hU A)).testBit p = true then 1 else 0) k), nI k)) (hN A) (fun k hk => ?_) ?_ (by omega) rfl
    · have x0 : 2 ^ k < 2 ^ hN A := Nat.pow_lt_pow_right (by decide) hk
      have pl := prd_lt hok (b := sme A (vU A 0 0) (vD A 0 0)) x0 (hN A)
      simp only [m_X10_inPools_l13]
      rw [h.1, if_neg (nI_ge hk (by omega)), pool10 (s := stM s q) hok q2 hk, Option.bind_some, nI_shl1 _ (by omega), nI_1, nI_1, sm]
      by_cases c : (plo A (sme A (vU A 0 0) (vD A 0 0)) (hU A)).testBit k = true
      · rw [if_neg (fun x => (pool_alone hok _ hk).mp (nI_inj (by omega) (by omega) x) c), if_pos c]
      · rw [if_pos (by rw [(pool_alone hok _ hk).mpr c]), if_neg c, Int32.add_zero]
        rfl
    · simp only [m_X10_inPools_l13]
      rw [h.1, if_pos (nI_le (Nat.le_refl _) (by omega))]
  refine ⟨q, ?_⟩
  unfold m_X10_inPools
  rw [all10 h hok, Option.bind_some, q1', Option.bind_some, key, Option.bind_some]
theorem pairsIn9 {s : T9} {B : Sh} (h : S6 (p9_spare s) B) (hok : okS B) : ∃ u : T5, m_X9_pairsIn_0_0_39 s = some (nI (sm (fun p => pcn (wrg B 0 p)) (hN B)), u) := by
  obtain ⟨u, u1, u2⟩ := order5 (s := p9_order s) h hok (W := 0) (by decide)
  have u1' : m_X5_work (p9_order s) (p9_spare s) 0 = some u := u1
  refine ⟨u, ?_⟩
  unfold m_X9_pairsIn_0_0_39
  rw [u1', Option.bind_some, pairCount5 u2 hok, Option.bind_some]
theorem cp6_raws {x1 : T12} {s : T6} {A : Sh} (h : S6 (cp6 x1 x1.1 s) A) {R : Nat → Nat} {f : Nat → Int32} (hf : Eqn f R (hN A)) : S6 (cp6 x1 f s) (aRaws A R) := by
  have h1 : x1.2.2.2.2.2.1 = nI (hN A) := h.1
  have h2 : Eqn x1.2.1 (hK A) (hN A) := h.2.1.2.1
  have h3 : Eqn x1.2.2.1 (hF A) (hN A) := h.2.1.2.2.1
  have h4 : Eqn x1.2.2.2.1 (hH A) (hN A) := h.2.1.2.2.2.1
  have h5 : Eqn x1.2.2.2.2.1 (hP A) (hN A) := h.2.1.2.2.2.2
  have h6 : x1.2.2.2.2.2.2.2.2.1 = nI (hU A) := h.2.2.1.1
  have h7 : Eqn x1.2.2.2.2.2.2.1 (hL A) (hU A) := h.2.2.1.2.1
  have h8 : Eqn x1.2.2.2.2.2.2.2.1 (hO A) (hU A) := h.2.2.1.2.2
  have h9 : x1.2.2.2.2.2.2.2.2.2.2.1 = nI (hB A) := h.2.2.2.1.1
  have h10 : Eqn x1.2.2.2.2.2.2.2.2.2.1 (hM A) (hB A) := h.2.2.2.1.2
  have h11 : x1.2.2.2.2.2.2.2.2.2.2.2 = nI (hT A) := h.2.2.2.2
  exact ⟨h1, ⟨hf, h2, h3, h4, h5⟩, ⟨h6, h7, h8⟩, ⟨h9, h10⟩, h11⟩
theorem S10_raws {s : T10} {A : Sh} (h : S10 s A) {R : Nat → Nat} {f : Nat → Int32} (hf : Eqn f R (hN A)) : S10 (u10_raw f s) (aRaws A R) := by
  obtain ⟨h1, ⟨h2, h3, h4, h5, h6⟩, ⟨h7, h8, h9⟩, ⟨h10, h11⟩, h12⟩ := h
  exact ⟨h1, ⟨hf, h3, h4, h5, h6⟩, ⟨h7, h8, h9⟩, ⟨h10, h11⟩, h12⟩
/-- one lot: all RAWS are drawn by both alike -/
theorem draws {s9 : T9} {s10 : T10} {A : Sh} (hok : okS A) (h10 : S10 s10 A) {x1 : T12} (hx : S6 (cp6 x1 x1.1 (p9_spare s9)) A) (z : Int32) (f g : Nat → Int32) : ∃ (z' : Int32) (f' g' : Nat → Int32) (R : Nat → Nat), lp (fun y : Int32 × Int32 × (Nat → Int32) => m_X9_drawAll_l29_2 s9 x1 y.1 y.2.1 y.2.2) fu (z, (0 : Int32), f) = some (z', f') ∧ lp (fun y : Int32 × Int32 × (Nat → Int32) => m_X10_lots_l67_2 s10 y.1 y.2.1 y.2.2) fu (z, (0 : Int32), g) = some (z', g') ∧ (∀ p, p < hN A → R p ≤ 99) ∧ Eqn f' R (hN A) ∧ Eqn g' R (hN A) := by
  have n7 := hok.1.1
  obtain ⟨⟨a1, a2⟩, ⟨b1, b2⟩, e1, e2, R, q1, q2, q3, q4⟩ := lp_relf (f := fun y : Int32 × Int32 × (Nat → Int32) => m_X9_drawAll_l29_2 s9 x1 y.1 y.2.1 y.2.2) (g := fun y : Int32 × Int32 × (Nat → Int32) => m_X10_lots_l67_2 s10 y.1 y.2.1 y.2.2) (I := fun d s t => ∃ k y f g R, k ≤ hN A ∧ d = hN A - k ∧ s = (y, nI k, f) ∧ t = (y, nI k, g) ∧ (∀ p, p < k → R p ≤ 99) ∧ Eqn f R k ∧ Eqn g R k) (Q := fun a b => ∃ R : Nat → Nat, a.1 = b.1 ∧ (∀ p, p < hN A → R p ≤ 99) ∧ Eqn a.2 R (hN A) ∧ Eqn b.2 R (hN A)) (d := hN A) (s := (z, (0 : Int32), f)) (t := (z, (0 : Int32), g)) (by
    rintro d s t ⟨k, y, f, g, R, hk, hd, rfl, rfl, r0, r1, r2⟩
    rcases Nat.lt_or_ge k (hN A) with q | q
    · obtain ⟨v, hv, ev⟩ := draw_in (y * 1664525 + 1013904223)
      have hs := setRaw6 (s := cp6 x1 f (p9_spare s9)) n7 (cp6_n hx f) q (v := v) hv
      refine Or.inl ⟨hN A - (k + 1), (y * 1664525 + 1013904223, nI (k + 1), upd f k (nI v)), (y * 1664525 + 1013904223, nI (k + 1), upd g k (nI v)), ?_, ?_, by omega, k + 1, _, _, _, fun j => if j = k then v else R j, by omega, rfl, rfl, rfl, fun p hp => ?_, Eqn_push r1 rfl, Eqn_push r2 rfl⟩
      · show m_X9_drawAll_l29_2 s9 x1 y (nI k) f = _
        have pc : m_X6_paperCount (cp6 x1 f (p9_spare s9)) = some (nI (hN A)) := by
          unfold m_X6_paperCount
          rw [cp6_n hx f]
        unfold m_X9_drawAll_l29_2
        rw [pc, Option.bind_some, if_neg (nI_ge q (by omega)), Option.bind_some, ev, hs, Option.bind_some, nI_1]
      · show m_X10_lots_l67_2 s10 y (nI k) g = _
        unfold m_X10_lots_l67_2
        rw [h10.1, if_neg (nI_ge q (by omega)), Option.bind_some, if_pos (inb_nI (by omega) (by decide)), nI_clamp (by omega), ev, nI_1]
      · show (if p = k then v else R p) ≤ 99
        by_cases w : p = k
        · rw [if_pos w]; exact hv
        · rw [if_neg w]; exact r0 p (by omega)
    · have ek : k = hN A := by omega
      rw [ek] at r0 r1 r2
      refine Or.inr ⟨(y, f), (y, g), ?_, ?_, R, rfl, r0, r1, r2⟩
      · show m_X9_drawAll_l29_2 s9 x1 y (nI k) f = _
        have pc : m_X6_paperCount (cp6 x1 f (p9_spare s9)) = some (nI (hN A)) := by
          unfold m_X6_paperCount
          rw [cp6_n hx f]
        unfold m_X9_drawAll_l29_2
        rw [pc, Option.bind_some, if_pos (nI_le q (by omega))]
      · show m_X10_lots_l67_2 s10 y (nI k) g = _
        unfold m_X10_lots_l67_2
        rw [h10.1, if_pos (nI_le q (by omega))]) ⟨0, z, f, g, fun _ => 0, Nat.zero_le _, rfl, rfl, rfl, fun p hp => absurd hp (Nat.not_lt_zero p), fun p hp => absurd hp (Nat.not_lt_zero p), fun p hp => absurd hp (Nat.not_lt_zero p)⟩ (by omega)
  have q1 : a1 = b1 := q1
  rw [q1] at e1
  exact ⟨b1, a2, b2, R, e1, e2, q2, q3, q4⟩
