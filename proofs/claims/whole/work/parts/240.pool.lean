/-! binds, pool -/
def sme (A : Sh) (u d : Nat → Nat) (r : Nat) : Bool := decide (nI (u (hL A r)) = nI (u (hO A r)) ∧ nI (d (hL A r)) = nI (d (hO A r)))
theorem lowerOf6 {t : T6} {A : Sh} (h : S6 t A) (hok : okS A) {r : Nat} (hr : r < hU A) : m_X6_lowerOf t (nI r) = some (nI (hL A r)) := by
  have n12 := hok.2.1.1
  unfold m_X6_lowerOf
  rw [get_in (by omega) (by decide), Option.bind_some, h.2.2.1.2.1 r hr]
theorem upperOf6 {t : T6} {A : Sh} (h : S6 t A) (hok : okS A) {r : Nat} (hr : r < hU A) : m_X6_upperOf t (nI r) = some (nI (hO A r)) := by
  have n12 := hok.2.1.1
  unfold m_X6_upperOf
  rw [get_in (by omega) (by decide), Option.bind_some, h.2.2.1.2.2 r hr]
theorem bind8 {s : T8} {t : T6} {A : Sh} {u d : Nat → Nat} (hok : okS A) (h : V9 s A u d) (h6 : S6 t A) {r : Nat} (hr : r < hU A) : m_X8_doesBind s t (nI r) = some (if sme A u d r = true then 1 else 0) := by
  have n7 := hok.1.1
  obtain ⟨k1, k2, k3⟩ := hok.2.1.2 r hr
  unfold m_X8_doesBind
  rw [lowerOf6 h6 hok hr, Option.bind_some, upperOf6 h6 hok hr, Option.bind_some, get_in (by omega) (by decide), Option.bind_some, get_in (by omega) (by decide), Option.bind_some, h.2.1 _ k1, h.2.1 _ k2, get_in (by omega) (by decide), Option.bind_some, get_in (by omega) (by decide), Option.bind_some, h.2.2 _ k1, h.2.2 _ k2]
  unfold sme
  by_cases c : nI (u (hL A r)) = nI (u (hO A r))
  · by_cases c2 : nI (d (hL A r)) = nI (d (hO A r))
    · rw [if_pos c, if_pos c2, if_pos (by simp [c, c2])]
    · rw [if_pos c, if_neg c2, if_neg (by simp [c2])]
  · rw [if_neg c, if_neg (by simp [c])]
theorem binds8 {s : T8} {t : T6} {A : Sh} {u d : Nat → Nat} (hok : okS A) (h : V9 s A u d) (h6 : S6 t A) : m_X8_bindingRules s t = some (nI (bs (sme A u d) (hU A))) := by
  have n12 := hok.2.1.1
  have key : lp (fun z : Int32 × Int32 => m_X8_bindingRules_l4 s t z.1 z.2) fu ((0 : Int32), (0 : Int32)) = some (nI (bs (sme A u d) (hU A))) := by
    refine lp_for (fun k => (nI (bs (sme A u d) k), nI k)) (hU A) (fun k hk => ?_) ?_ (by omega) rfl
    · simp only [m_X8_bindingRules_l4, m_X6_ruleCount]
      rw [Option.bind_some, h6.2.2.1.1, if_neg (nI_ge hk (by omega)), bind8 hok h h6 hk, Option.bind_some, nI_1, bs_or]
      by_cases c : sme A u d k = true
      · rw [if_pos c, if_neg (by decide), nI_shl1 _ (by omega), nI_or, if_pos c]
      · rw [if_neg c, if_pos rfl, if_neg c, Nat.or_zero]
    · simp only [m_X8_bindingRules_l4, m_X6_ruleCount]
      rw [Option.bind_some, h6.2.2.1.1, if_pos (nI_le (Nat.le_refl _) (by omega))]
  unfold m_X8_bindingRules
  rw [key, Option.bind_some]
theorem same10 {s : T10} {A : Sh} {u d : Nat → Nat} (hok : okS A) (h : V10 s A u d) {r : Nat} (hr : r < hU A) : m_X10_isSame s (nI (hL A r)) (nI (hO A r)) = some (if sme A u d r = true then 1 else 0) := by
  have n7 := hok.1.1
  obtain ⟨k1, k2, k3⟩ := hok.2.1.2 r hr
  have ib1 : inb (nI (hL A r)) 7 = true := inb_nI (by omega) (by decide)
  have ib2 : inb (nI (hO A r)) 7 = true := inb_nI (by omega) (by decide)
  unfold m_X10_isSame
  rw [if_pos ib1, if_pos ib2, nI_clamp (by omega), nI_clamp (by omega), h.2.1 _ k1, h.2.1 _ k2, if_pos ib1, if_pos ib2, h.2.2 _ k1, h.2.2 _ k2]
  unfold sme
  by_cases c : nI (u (hL A r)) = nI (u (hO A r))
  · by_cases c2 : nI (d (hL A r)) = nI (d (hO A r))
    · rw [if_pos c, if_pos c2, if_pos (by simp [c, c2])]
    · rw [if_pos c, if_neg c2, if_neg (by simp [c2])]
  · rw [if_neg c, if_neg (by simp [c])]
theorem binds10 {s : T10} {A : Sh} {u d : Nat → Nat} (hok : okS A) (h10 : S10 s A) {q : T5r} (h : V10 (stM s q) A u d) : lp (fun z : Int32 × Int32 => m_X10_binds_l27 s q z.1 z.2) fu ((0 : Int32), (0 : Int32)) = some (nI (bs (sme A u d) (hU A))) := by
  have n12 := hok.2.1.1
  refine lp_for (fun k => (nI (bs (sme A u d) k), nI k)) (hU A) (fun k hk => ?_) ?_ (by omega) rfl
  · have ib : inb (nI k) 12 = true := inb_nI (by omega) (by decide)
    simp only [m_X10_binds_l27]
    rw [h10.2.2.1.1, if_neg (nI_ge hk (by omega)), if_pos ib, if_pos ib, nI_clamp (by omega), h10.2.2.1.2.1 k hk, h10.2.2.1.2.2 k hk, same10 (s := stM s q) hok h hk, Option.bind_some, nI_1, bs_or]
    by_cases c : sme A u d k = true
    · rw [if_pos c, if_neg (by decide), nI_shl1 _ (by omega), nI_or, if_pos c]
    · rw [if_neg c, if_pos rfl, if_neg c, show (0 : Int32) = nI 0 from rfl, nI_or]
  · simp only [m_X10_binds_l27]
    rw [h10.2.2.1.1, if_pos (nI_le (Nat.le_refl _) (by omega))]
theorem op_binds : OP_binds Rel := by
  intro s9 s10 p1 ⟨A, hok, h6, h10, rI, rL, rT, rH, rR, rS, rB⟩
  rcases loss_cases p1 with ⟨l, hl, rfl, e9, e10⟩ | ⟨e9, e10⟩
  · obtain ⟨r, r1, r2, r3⟩ := rules9 h6 hok rB hl
    obtain ⟨q, q1, q2⟩ := rules10 h10 hok hl
    refine ⟨(nI (bs (sme A (vU A l 0) (vD A l 0)) (hU A)), p9_refusals s9, r), (nI (bs (sme A (vU A l 0) (vD A l 0)) (hU A)), p10_refusals s10, q), ?_, ?_, rfl, Rel_q rI rL rT rH (by dsimp only [keep9q, st_X9_binds]) (by dsimp only [keep10, st_X10_binds]) hok (by dsimp only [st_X9_binds]; exact h6) (S10_mk h10 (by dsimp only [c10, st_X10_binds])) (by dsimp only [st_X9_binds, st_X10_binds]; exact rR) (by dsimp only [st_X9_binds]; exact rS) (by dsimp only [RelB, st_X9_binds]; exact r3)⟩
    · unfold m_X9_binds
      rw [e9, Option.bind_some, if_neg (by decide), r1, Option.bind_some, binds8 hok r2 h6]
      rfl
    · unfold m_X10_binds
      rw [e10, Option.bind_some, if_neg (by decide), all10 h10 hok, Option.bind_some, q1, Option.bind_some, binds10 hok h10 q2]
      rfl
  · refine ⟨(-2, cnt (p9_refusals s9) 2, cur0 (p9_byRules s9)), (-2, cnt (p10_refusals s10) 2, cur10 s10), ?_, ?_, rfl, A, hok, h6, h10, rI, rL, rT, rH, Req_cnt rR (by decide), rS, rB⟩
    · unfold m_X9_binds
      rw [e9, Option.bind_some, if_pos rfl, use9 (k := 2) _ (by decide) (by decide), Option.bind_some]
      rfl
    · unfold m_X10_binds
      rw [e10, Option.bind_some, if_pos rfl, no10 (k := 2) _ (by decide) (by decide), Option.bind_some]
      rfl
/-- one rule's pooling, then all, then round by round -/
def pst (A : Sh) (b : Nat → Bool) (X r : Nat) : Nat := if (b r && (X.testBit (hL A r) || X.testBit (hO A r))) = true then X ||| (2 ^ hL A r ||| 2 ^ hO A r) else X
def pal (A : Sh) (b : Nat → Bool) (X : Nat) : Nat → Nat
  | 0 => X
  | k + 1 => pst A b (pal A b X k) k
def prd (A : Sh) (b : Nat → Bool) (X : Nat) : Nat → Nat
  | 0 => X
  | k + 1 => pal A b (prd A b X k) (hU A)
theorem pst_lt {A : Sh} (hok : okS A) {b : Nat → Bool} {X r : Nat} (hr : r < hU A) (h : X < 2 ^ hN A) : pst A b X r < 2 ^ hN A := by
  obtain ⟨k1, k2, k3⟩ := hok.2.1.2 r hr
  unfold pst
  split
  · exact or_lt h (or_lt (Nat.pow_lt_pow_right (by decide) k1) (Nat.pow_lt_pow_right (by decide) k2))
  · exact h
theorem pal_lt {A : Sh} (hok : okS A) {b : Nat → Bool} {X : Nat} (h : X < 2 ^ hN A) : ∀ k, k ≤ hU A → pal A b X k < 2 ^ hN A := by
  intro k
  induction k with
  | zero => intro _; exact h
  | succ k ih => intro hk; exact pst_lt hok (by omega) (ih (by omega))
theorem prd_lt {A : Sh} (hok : okS A) {b : Nat → Bool} {X : Nat} (h : X < 2 ^ hN A) : ∀ k, prd A b X k < 2 ^ hN A := by
  intro k
  induction k with
  | zero => exact h
  | succ k ih => exact pal_lt hok ih (hU A) (Nat.le_refl _)
theorem meet0 {X a b : Nat} : X &&& (2 ^ a ||| 2 ^ b) = 0 ↔ ¬ (X.testBit a || X.testBit b) = true := by
  constructor
  · intro h k
    rw [Bool.or_eq_true] at k
    rcases k with k | k
    · have : (X &&& (2 ^ a ||| 2 ^ b)).testBit a = true := and_bit.mpr ⟨k, or_bit.mpr (Or.inl (pow_bit.mpr rfl))⟩
      rw [h, Nat.zero_testBit] at this
      cases this
    · have : (X &&& (2 ^ a ||| 2 ^ b)).testBit b = true := and_bit.mpr ⟨k, or_bit.mpr (Or.inr (pow_bit.mpr rfl))⟩
      rw [h, Nat.zero_testBit] at this
      cases this
  · intro h
    refine Nat.eq_of_testBit_eq fun i => ?_
    rw [Nat.zero_testBit]
    cases c : (X &&& (2 ^ a ||| 2 ^ b)).testBit i with
    | false => rfl
    | true =>
      rw [and_bit, or_bit, pow_bit, pow_bit] at c
      refine absurd ?_ h
      rw [Bool.or_eq_true]
      rcases c.2 with k | k
      · rw [← k]; exact Or.inl c.1
      · rw [← k]; exact Or.inr c.1
theorem pool8 {s : T8} {t : T6} {A : Sh} {u d : Nat → Nat} (hok : okS A) (h : V9 s A u d) (h6 : S6 t A) {p : Nat} (hp : p < hN A) : m_X8_poolOf s t (nI p) = some (nI (prd A (sme A u d) (2 ^ p) (hN A))) := by
  have n7 := hok.1.1
  have n12 := hok.2.1.1
  have p7 := pow_le7 n7
  have rl := rules_lt hok
  have bl := bs_lt (sme A u d) (hU A)
  have x0 : 2 ^ p < 2 ^ hN A := Nat.pow_lt_pow_right (by decide) hp
  have inner : ∀ X, X < 2 ^ hN A → lp (fun z : Int32 × Int32 => m_X8_poolOf_l26_2 t (nI (bs (sme A u d) (hU A))) z.1 z.2) fu (nI X, (0 : Int32)) = some (nI (pal A (sme A u d) X (hU A))) := by
    intro X hX
    refine lp_for (fun k => (nI (pal A (sme A u d) X k), nI k)) (hU A) (fun k hk => ?_) ?_ (by omega) rfl
    · obtain ⟨k1, k2, k3⟩ := hok.2.1.2 k hk
      have y := pal_lt hok (b := sme A u d) hX k (by omega)
      have z1 : 2 ^ hL A k < 2 ^ hN A := Nat.pow_lt_pow_right (by decide) k1
      have z2 : 2 ^ hO A k < 2 ^ hN A := Nat.pow_lt_pow_right (by decide) k2
      have z3 := or_lt z1 z2
      have z4 : pal A (sme A u d) X k &&& (2 ^ hL A k ||| 2 ^ hO A k) ≤ pal A (sme A u d) X k := Nat.and_le_left
      have bit : (bs (sme A u d) (hU A)).testBit k = sme A u d k := by rw [bs_bit, decide_eq_true hk, Bool.true_and]
      simp only [m_X8_poolOf_l26_2, m_X6_ruleCount]
      rw [Option.bind_some, h6.2.2.1.1, if_neg (nI_ge hk (by omega)), lowerOf6 h6 hok hk, Option.bind_some, upperOf6 h6 hok hk, Option.bind_some, nI_shl1 _ (by omega), nI_shl1 _ (by omega), nI_or, Option.bind_some, hasBit9 (by omega) (by omega), bit, Option.bind_some, nI_1, nI_and, nI_or]
      show _ = some (Sum.inl (nI (pst A (sme A u d) (pal A (sme A u d) X k) k), nI (k + 1)))
      unfold pst
      by_cases c : sme A u d k = true
      · rw [if_pos c, if_neg (by decide), c, Bool.true_and]
        by_cases c2 : pal A (sme A u d) X k &&& (2 ^ hL A k ||| 2 ^ hO A k) = 0
        · rw [if_neg (meet0.mp c2), c2, if_pos (show nI 0 = 0 from rfl)]
        · rw [if_pos (Classical.byContradiction fun q => c2 (meet0.mpr q)), if_neg (show ¬ nI (pal A (sme A u d) X k &&& (2 ^ hL A k ||| 2 ^ hO A k)) = 0 from fun q => c2 (nI_inj (b := 0) (by omega) (by decide) q))]
      · rw [if_neg c, if_pos rfl, if_neg (by simp [c])]
    · simp only [m_X8_poolOf_l26_2, m_X6_ruleCount]
      rw [Option.bind_some, h6.2.2.1.1, if_pos (nI_le (Nat.le_refl _) (by omega))]
  have key : lp (fun z : Int32 × Int32 => m_X8_poolOf_l14 s t (nI (bs (sme A u d) (hU A))) z.1 z.2) fu (nI (2 ^ p), (0 : Int32)) = some (nI (prd A (sme A u d) (2 ^ p) (hN A))) := by
    refine lp_for (fun k => (nI (prd A (sme A u d) (2 ^ p) k), nI k)) (hN A) (fun k hk => ?_) ?_ (by omega) rfl
    · simp only [m_X8_poolOf_l14]
      rw [h.1.2.2.2, if_neg (nI_ge hk (by omega)), inner _ (prd_lt hok x0 k), Option.bind_some, nI_1]
      rfl
    · simp only [m_X8_poolOf_l14]
      rw [h.1.2.2.2, if_pos (nI_le (Nat.le_refl _) (by omega))]
  unfold m_X8_poolOf
  rw [binds8 hok h h6, Option.bind_some, nI_shl1 _ (by omega), key, Option.bind_some]
theorem pool10 {s : T10} {A : Sh} {u d : Nat → Nat} (hok : okS A) (h : V10 s A u d) {p : Nat} (hp : p < hN A) : m_X10_poolOf s (nI p) = some (nI (prd A (sme A u d) (2 ^ p) (hN A))) := by
  have n7 := hok.1.1
  have n12 := hok.2.1.1
  have p7 := pow_le7 n7
  have x0 : 2 ^ p < 2 ^ hN A := Nat.pow_lt_pow_right (by decide) hp
  have h10 := h.1
  have inner : ∀ X, X < 2 ^ hN A → lp (fun z : Int32 × Int32 => m_X10_poolOf_l17_2 s z.1 z.2) fu (nI X, (0 : Int32)) = some (nI (pal A (sme A u d) X (hU A))) := by
    intro X hX
    refine lp_for (fun k => (nI (pal A (sme A u d) X k), nI k)) (hU A) (fun k hk => ?_) ?_ (by omega) rfl
    · obtain ⟨k1, k2, k3⟩ := hok.2.1.2 k hk
      have y := pal_lt hok (b := sme A u d) hX k (by omega)
      have ib : inb (nI k) 12 = true := inb_nI (by omega) (by decide)
      simp only [m_X10_poolOf_l17_2]
      rw [h10.2.2.1.1, if_neg (nI_ge hk (by omega)), nI_clamp (by omega), h10.2.2.1.2.1 k hk, h10.2.2.1.2.2 k hk]
      simp only [if_pos ib]
      rw [same10 hok h hk, Option.bind_some, nI_1, has10 (by omega) (by omega), Option.bind_some, has10 (by omega) (by omega), Option.bind_some, nI_shl1 _ (by omega), nI_shl1 _ (by omega), nI_or, nI_or, Option.bind_some]
      show _ = some (Sum.inl (nI (pst A (sme A u d) (pal A (sme A u d) X k) k), nI (k + 1)))
      unfold pst
      cases c : sme A u d k <;> cases c1 : (pal A (sme A u d) X k).testBit (hL A k) <;> cases c2 : (pal A (sme A u d) X k).testBit (hO A k) <;> rfl
    · simp only [m_X10_poolOf_l17_2]
      rw [h10.2.2.1.1, if_pos (nI_le (Nat.le_refl _) (by omega))]
  have key : lp (fun z : Int32 × Int32 => m_X10_poolOf_l6 s z.1 z.2) fu (nI (2 ^ p), (0 : Int32)) = some (nI (prd A (sme A u d) (2 ^ p) (hN A))) := by
    refine lp_for (fun k => (nI (prd A (sme A u d) (2 ^ p) k), nI k)) (hN A) (fun k hk => ?_) ?_ (by omega) rfl
    · simp only [m_X10_poolOf_l6]
      rw [h10.1, if_neg (nI_ge hk (by omega)), inner _ (prd_lt hok x0 k), Option.bind_some, nI_1]
      rfl
    · simp only [m_X10_poolOf_l6]
      rw [h10.1, if_pos (nI_le (Nat.le_refl _) (by omega))]
  unfold m_X10_poolOf
  rw [nI_shl1 _ (by omega), key, Option.bind_some]
theorem op_pool : OP_pool Rel := by
  intro s9 s10 p1 p2 ⟨A, hok, h6, h10, rI, rL, rT, rH, rR, rS, rB⟩
  have bad : ∀ (c : Int32) (k : Nat), k < 7 → -c = nI k → m_X9_pool s9 p1 p2 = (m_X9use s9 c).bind (fun x6 => some (x6.1, x6.2, cur0 (p9_byRules s9))) → m_X10_pool s10 p1 p2 = (m_X10_no s10 c).bind (fun x8 => some (x8.1, x8.2, cur10 s10)) → ∃ u v, m_X9_pool s9 p1 p2 = some u ∧ m_X10_pool s10 p1 p2 = some v ∧ u.1 = v.1 ∧ Rel (st_X9_pool s9 u) (st_X10_pool s10 v) := by
    intro c k hk hc e9 e10
    rw [use9 s9 hk hc, Option.bind_some] at e9
    rw [no10 s10 hk hc, Option.bind_some] at e10
    exact ⟨_, _, e9, e10, rfl, A, hok, h6, h10, rI, rL, rT, rH, Req_cnt rR hk, rS, rB⟩
  rcases why_cases (s9 := s9) h6 h10 hok p1 p2 with ⟨l, p, hl, hp, rfl, rfl, w9, w1, w2⟩ | ⟨w9, w1⟩ | ⟨w9, w1, w2⟩
  · obtain ⟨r, r1, r2, r3⟩ := rules9 h6 hok rB hl
    obtain ⟨q, q1, q2⟩ := rules10 h10 hok hl
    refine ⟨(nI (prd A (sme A (vU A l 0) (vD A l 0)) (2 ^ p) (hN A)), p9_refusals s9, r), (nI (prd A (sme A (vU A l 0) (vD A l 0)) (2 ^ p) (hN A)), p10_refusals s10, q), ?_, ?_, rfl, Rel_q rI rL rT rH (by dsimp only [keep9q, st_X9_pool]) (by dsimp only [keep10, st_X10_pool]) hok (by dsimp only [st_X9_pool]; exact h6) (S10_mk h10 (by dsimp only [c10, st_X10_pool])) (by dsimp only [st_X9_pool, st_X10_pool]; exact rR) (by dsimp only [st_X9_pool]; exact rS) (by dsimp only [RelB, st_X9_pool]; exact r3)⟩
    · unfold m_X9_pool
      rw [w9, Option.bind_some, if_pos rfl, r1, Option.bind_some, pool8 hok r2 h6 hp]
      rfl
    · unfold m_X10_pool
      rw [w1, Option.bind_some, if_neg (by decide), w2, Option.bind_some, if_neg (by decide), all10 h10 hok, Option.bind_some, q1, Option.bind_some, pool10 (s := stM s10 q) hok q2 hp]
      rfl
  · refine bad (-2) 2 (by decide) (by decide) ?_ ?_
    · unfold m_X9_pool
      rw [w9, Option.bind_some, if_neg (by decide)]
      rfl
    · unfold m_X10_pool
      rw [w1, Option.bind_some, if_pos rfl]
      rfl
  · refine bad (-1) 1 (by decide) (by decide) ?_ ?_
    · unfold m_X9_pool
      rw [w9, Option.bind_some, if_neg (by decide)]
      rfl
    · unfold m_X10_pool
      rw [w1, Option.bind_some, if_neg (by decide), w2, Option.bind_some, if_pos rfl]
      rfl
