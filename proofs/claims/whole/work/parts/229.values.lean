/-! the class's VALUES: what they begin with, sums, what is laid -/
def zI (i : Int) : Int32 := Int32.ofInt i
theorem zI_nat (k : Nat) : zI (k : Int) = nI k := Int32.ofInt_eq_ofNat
theorem J_32 (i : Int) : (J i).toInt32 = zI i := Int64.toInt32_ofInt
theorem nI_64 {k : Nat} (h : k < 2 ^ 31) : (nI k).toInt64 = J k := by
  rw [← Int64.toInt_inj, Int32.toInt_toInt64, nI_toInt h, J_int (by omega) (by omega)]
theorem zI_64 {i : Int} (h1 : -2147483648 ≤ i) (h2 : i < 2147483648) : (zI i).toInt64 = J i := by
  rw [← Int64.toInt_inj, Int32.toInt_toInt64, J_int (by omega) (by omega)]
  exact Int32.toInt_ofInt_of_le (by omega) (by omega)
def SV8 (s : T8) (A : Sh) : Prop := Eqn (p8_marks s) (mkA A) (hN A) ∧ Eqn (p8_weights s) (wtA A) (hN A) ∧ Eqn (p8_places s) (hP A) (hN A) ∧ p8_papers s = nI (hN A)
theorem begin8 (s : T8) {t : T6} {A : Sh} (h : S6 t A) (hok : okS A) : ∃ u, m_X8_begin s t = some u ∧ Eqn u.1 (mkA A) (hN A) ∧ Eqn u.2.1 (wtA A) (hN A) ∧ Eqn u.2.2.1 (hP A) (hN A) ∧ Eqn u.2.2.2.1 (mkA A) (hN A) ∧ Eqn u.2.2.2.2.1 (fun _ => 1) (hN A) ∧ u.2.2.2.2.2 = nI (hN A) := by
  have n7 := hok.1.1
  obtain ⟨r, e, q⟩ := lp_invf (f := fun z : Int32 × (Nat → Int32) × (Nat → Int32) × (Nat → Int32) × (Nat → Int32) × (Nat → Int32) => m_X8_begin_l10 t (nI (hN A)) z.1 z.2.1 z.2.2.1 z.2.2.2.1 z.2.2.2.2.1 z.2.2.2.2.2) (I := fun d z => ∃ k, k ≤ hN A ∧ d = hN A - k ∧ z.1 = nI k ∧ Eqn z.2.1 (mkA A) k ∧ Eqn z.2.2.1 (wtA A) k ∧ Eqn z.2.2.2.1 (hP A) k ∧ Eqn z.2.2.2.2.1 (mkA A) k ∧ Eqn z.2.2.2.2.2 (fun _ => 1) k) (Q := fun r => Eqn r.1 (mkA A) (hN A) ∧ Eqn r.2.1 (wtA A) (hN A) ∧ Eqn r.2.2.1 (hP A) (hN A) ∧ Eqn r.2.2.2.1 (mkA A) (hN A) ∧ Eqn r.2.2.2.2 (fun _ => 1) (hN A)) (d := hN A) (s := ((0 : Int32), p8_marks s, p8_weights s, p8_places s, p8_aboves s, p8_belows s)) (by
    rintro d ⟨i, f1, f2, f3, f4, f5⟩ ⟨k, hk, hd, rfl, e1, e2, e3, e4, e5⟩
    simp only at e1 e2 e3 e4 e5 ⊢
    rcases Nat.lt_or_ge k (hN A) with q | q
    · have pl : m_X6_placeOf t (nI k) = some (nI (hP A k)) := by
        unfold m_X6_placeOf
        rw [get_in (by omega) (by decide), Option.bind_some, h.2.1.2.2.2.2 k q]
      refine Or.inl ⟨hN A - (k + 1), (nI (k + 1), upd f1 k (nI (mkA A k)), upd f2 k (nI (wtA A k)), upd f3 k (nI (hP A k)), upd f4 k (nI (mkA A k)), upd f5 k 1), ?_, by omega, k + 1, by omega, rfl, rfl, Eqn_congr (Eqn_push e1 (v := mkA A k) rfl) (fun j hj => by by_cases w : j = k <;> simp [w]), Eqn_congr (Eqn_push e2 (v := wtA A k) rfl) (fun j hj => by by_cases w : j = k <;> simp [w]), Eqn_congr (Eqn_push e3 (v := hP A k) rfl) (fun j hj => by by_cases w : j = k <;> simp [w]), Eqn_congr (Eqn_push e4 (v := mkA A k) rfl) (fun j hj => by by_cases w : j = k <;> simp [w]), Eqn_congr (Eqn_push e5 (v := 1) rfl) (fun j hj => by by_cases w : j = k <;> simp [w])⟩
      unfold m_X8_begin_l10
      rw [if_neg (nI_ge q (by omega)), markOf6 h hok q, Option.bind_some, set_in (by omega) (by decide), Option.bind_some, weightOf6 h hok q, Option.bind_some, set_in (by omega) (by decide), Option.bind_some, pl, Option.bind_some, set_in (by omega) (by decide), Option.bind_some, set_in (by omega) (by decide), Option.bind_some, set_in (by omega) (by decide), Option.bind_some, nI_1]
    · refine Or.inr ⟨(f1, f2, f3, f4, f5), ?_, Eqn_less e1 q, Eqn_less e2 q, Eqn_less e3 q, Eqn_less e4 q, Eqn_less e5 q⟩
      unfold m_X8_begin_l10
      rw [if_pos (nI_le q (by omega))]) ⟨0, Nat.zero_le _, rfl, rfl, fun i hi => absurd hi (Nat.not_lt_zero i), fun i hi => absurd hi (Nat.not_lt_zero i), fun i hi => absurd hi (Nat.not_lt_zero i), fun i hi => absurd hi (Nat.not_lt_zero i), fun i hi => absurd hi (Nat.not_lt_zero i)⟩ (by omega)
  refine ⟨(r.1, r.2.1, r.2.2.1, r.2.2.2.1, r.2.2.2.2, nI (hN A)), ?_, q.1, q.2.1, q.2.2.1, q.2.2.2.1, q.2.2.2.2, rfl⟩
  unfold m_X8_begin m_X6_paperCount
  rw [Option.bind_some, h.1, e, Option.bind_some]
theorem sumOf8 {s : T8} {A : Sh} (h : SV8 s A) (hok : okS A) {x : Nat} (hx : x < 2 ^ hN A) : m_X8_sumOf s (nI x) = some (nI (suS A x)) := by
  have n7 := hok.1.1
  have p7 := pow_le7 n7
  obtain ⟨h1, h2, h3, h4⟩ := h
  have key : lp (fun z : Int32 × Int32 => m_X8_sumOf_l4 s (nI x) z.1 z.2) fu ((0 : Int32), (0 : Int32)) = some (nI (suS A x)) := by
    refine lp_for (fun k => (nI (sm (fun p => if x.testBit p = true then mkA A p * wtA A p else 0) k), nI k)) (hN A) (fun k hk => ?_) ?_ (by omega) rfl
    · simp only [m_X8_sumOf_l4]
      rw [h4, if_neg (nI_ge hk (by omega)), hasBit9 (by omega) (by omega), Option.bind_some, nI_1]
      by_cases c : x.testBit k = true
      · rw [if_pos c, if_neg (by decide), get_in (by omega) (by decide), Option.bind_some, get_in (by omega) (by decide), Option.bind_some, h1 k hk, h2 k hk, nI_mul, nI_add, sm, if_pos c]
      · rw [if_neg c, if_pos rfl, Int32.add_zero, sm, if_neg c]
        rfl
    · simp only [m_X8_sumOf_l4]
      rw [h4, if_pos (nI_le (Nat.le_refl _) (by omega))]
      rfl
  unfold m_X8_sumOf
  rw [key, Option.bind_some]
theorem weightOf8 {s : T8} {A : Sh} (h : SV8 s A) (hok : okS A) {x : Nat} (hx : x < 2 ^ hN A) : m_X8_weightOf s (nI x) = some (nI (wtS A x)) := by
  have n7 := hok.1.1
  have p7 := pow_le7 n7
  obtain ⟨h1, h2, h3, h4⟩ := h
  have key : lp (fun z : Int32 × Int32 => m_X8_weightOf_l4 s (nI x) z.1 z.2) fu ((0 : Int32), (0 : Int32)) = some (nI (wtS A x)) := by
    refine lp_for (fun k => (nI (sm (fun p => if x.testBit p = true then wtA A p else 0) k), nI k)) (hN A) (fun k hk => ?_) ?_ (by omega) rfl
    · simp only [m_X8_weightOf_l4]
      rw [h4, if_neg (nI_ge hk (by omega)), hasBit9 (by omega) (by omega), Option.bind_some, nI_1]
      by_cases c : x.testBit k = true
      · rw [if_pos c, if_neg (by decide), get_in (by omega) (by decide), Option.bind_some, h2 k hk, nI_add, sm, if_pos c]
      · rw [if_neg c, if_pos rfl, Int32.add_zero, sm, if_neg c]
        rfl
    · simp only [m_X8_weightOf_l4]
      rw [h4, if_pos (nI_le (Nat.le_refl _) (by omega))]
      rfl
  unfold m_X8_weightOf
  rw [key, Option.bind_some]
/-- those with a mark up to v -/
def upto (A : Sh) (v : Nat) : Nat := bs (fun p => decide (mkA A p ≤ v)) (hN A)
theorem upTo8 {s : T8} {A : Sh} (h : SV8 s A) (hok : okS A) {v : Nat} (hv : v < 2 ^ 31) : m_X8_papersUpTo s (nI v) = some (nI (upto A v)) := by
  have n7 := hok.1.1
  obtain ⟨h1, h2, h3, h4⟩ := h
  have key : lp (fun z : Int32 × Int32 => m_X8_papersUpTo_l4 s (nI v) z.1 z.2) fu ((0 : Int32), (0 : Int32)) = some (nI (upto A v)) := by
    refine lp_for (fun k => (nI (bs (fun p => decide (mkA A p ≤ v)) k), nI k)) (hN A) (fun k hk => ?_) ?_ (by omega) rfl
    · have m1 := mkA_le hok hk
      simp only [m_X8_papersUpTo_l4]
      rw [h4, if_neg (nI_ge hk (by omega)), get_in (by omega) (by decide), Option.bind_some, h1 k hk, nI_1, bs_or]
      by_cases c : mkA A k ≤ v
      · rw [if_neg (fun q => by have := (nI_lti hv (by omega)).mp q; omega), nI_shl1 _ (by omega), nI_or, if_pos (decide_eq_true c)]
      · rw [if_pos ((nI_lti hv (by omega)).mpr (by omega)), if_neg (by simp [c]), show (0 : Int32) = nI 0 from rfl, nI_or]
    · simp only [m_X8_papersUpTo_l4]
      rw [h4, if_pos (nI_le (Nat.le_refl _) (by omega))]
      rfl
  unfold m_X8_papersUpTo
  rw [key, Option.bind_some]
theorem break8 {s : T8} {t : T6} {A : Sh} (h : SV8 s A) (h6 : S6 t A) (hok : okS A) {W : Nat} (hW : W < 2 ^ 12) : (m_X8_breakAny s t (nI W) = some 1 ∧ ∃ r, r < hU A ∧ W.testBit r = false ∧ mkA A (hO A r) < mkA A (hL A r)) ∨ (m_X8_breakAny s t (nI W) = some 0 ∧ ∀ r, r < hU A → W.testBit r = false → mkA A (hL A r) ≤ mkA A (hO A r)) := by
  have n7 := hok.1.1
  have n12 := hok.2.1.1
  obtain ⟨h1, h2, h3, h4⟩ := h
  obtain ⟨-, -, ⟨a1, a2, a3⟩, -⟩ := id h6
  obtain ⟨r, e, q⟩ := lp_invf (f := fun z : Int32 => m_X8_breakAny_l2 s t (nI W) z) (I := fun d z => ∃ k, k ≤ hU A ∧ d = hU A - k ∧ z = nI k ∧ ∀ r, r < k → W.testBit r = false → mkA A (hL A r) ≤ mkA A (hO A r)) (Q := fun r => (r = .inl () ∧ ∃ r, r < hU A ∧ W.testBit r = false ∧ mkA A (hO A r) < mkA A (hL A r)) ∨ (r = .inr () ∧ ∀ r, r < hU A → W.testBit r = false → mkA A (hL A r) ≤ mkA A (hO A r))) (d := hU A) (s := 0) (by
    rintro d z ⟨k, hk, hd, rfl, no⟩
    rcases Nat.lt_or_ge k (hU A) with q | q
    · obtain ⟨k1, k2, k3⟩ := hok.2.1.2 k q
      have m1 := mkA_le hok k1
      have m2 := mkA_le hok k2
      have go : m_X8_breakAny_l2 s t (nI W) (nI k) = if W.testBit k = true then some (.inl (nI (k + 1))) else if mkA A (hL A k) ≤ mkA A (hO A k) then some (.inl (nI (k + 1))) else some (.inr (.inl ())) := by
        unfold m_X8_breakAny_l2 m_X6_ruleCount
        rw [Option.bind_some, a1, if_neg (nI_ge q (by omega)), hasBit9 (by omega) (by omega), Option.bind_some, nI_1]
        by_cases c : W.testBit k = true
        · rw [if_pos c, if_pos c, if_neg (by decide)]
        · have l1 : m_X6_lowerOf t (nI k) = some (nI (hL A k)) := by
            unfold m_X6_lowerOf
            rw [get_in (by omega) (by decide), Option.bind_some, a2 k q]
          have l2 : m_X6_upperOf t (nI k) = some (nI (hO A k)) := by
            unfold m_X6_upperOf
            rw [get_in (by omega) (by decide), Option.bind_some, a3 k q]
          rw [if_neg c, if_neg c, if_pos rfl, l1, Option.bind_some, get_in (by omega) (by decide), Option.bind_some, l2, Option.bind_some, get_in (by omega) (by decide), Option.bind_some, h1 _ k1, h1 _ k2]
          by_cases c2 : mkA A (hL A k) ≤ mkA A (hO A k)
          · rw [if_pos c2, if_pos ((nI_lei (by omega) (by omega)).mpr c2)]
          · rw [if_neg c2, if_neg (fun x => c2 ((nI_lei (by omega) (by omega)).mp x))]
      rw [go]
      by_cases c : W.testBit k = true
      · rw [if_pos c]
        refine Or.inl ⟨hU A - (k + 1), _, rfl, by omega, k + 1, by omega, rfl, rfl, fun r hr hw => ?_⟩
        rcases Nat.lt_or_ge r k with w | w
        · exact no r w hw
        · rw [show r = k by omega, c] at hw; cases hw
      · rw [if_neg c]
        by_cases c2 : mkA A (hL A k) ≤ mkA A (hO A k)
        · rw [if_pos c2]
          refine Or.inl ⟨hU A - (k + 1), _, rfl, by omega, k + 1, by omega, rfl, rfl, fun r hr hw => ?_⟩
          rcases Nat.lt_or_ge r k with w | w
          · exact no r w hw
          · rw [show r = k by omega]; exact c2
        · rw [if_neg c2]
          exact Or.inr ⟨_, rfl, Or.inl ⟨rfl, k, q, by simpa using c, by omega⟩⟩
    · refine Or.inr ⟨.inr (), ?_, Or.inr ⟨rfl, fun r hr => no r (by omega)⟩⟩
      unfold m_X8_breakAny_l2 m_X6_ruleCount
      rw [Option.bind_some, a1, if_pos (nI_le q (by omega))]) ⟨0, Nat.zero_le _, rfl, rfl, fun r hr => absurd hr (Nat.not_lt_zero r)⟩ (by omega)
  unfold m_X8_breakAny
  rw [e, Option.bind_some]
  rcases q with ⟨rfl, q⟩ | ⟨rfl, q⟩
  · exact Or.inl ⟨rfl, q⟩
  · exact Or.inr ⟨rfl, q⟩
theorem lay8 {s : T8} {n : Nat} (hn : n ≤ 7) (h4 : p8_papers s = nI n) {x : Nat} (hx : x < 2 ^ 31) {a : Int} {b : Nat} (ra : rng a) (hb : 0 < b) (rb : rng b) : ∃ fa fb, m_X8_lay s (nI x) (J a) (J b) = some (fa, fb, J (mkRat a b).num, J ((mkRat a b).den : Int)) ∧ ∀ p, p < n → (x.testBit p = true → fa p = zI (mkRat a b).num ∧ fb p = nI (mkRat a b).den) ∧ (¬ x.testBit p = true → fa p = p8_aboves s p ∧ fb p = p8_belows s p) := by
  obtain ⟨r, e, q⟩ := lp_invf (f := fun z : Int32 × (Nat → Int32) × (Nat → Int32) => m_X8_lay_l13 s (nI x) (J (mkRat a b).num, J ((mkRat a b).den : Int)) z.1 z.2.1 z.2.2) (I := fun d z => ∃ k, k ≤ n ∧ d = n - k ∧ z.1 = nI k ∧ (∀ p, p < n → (x.testBit p = true → p < k → z.2.1 p = zI (mkRat a b).num ∧ z.2.2 p = nI (mkRat a b).den) ∧ ((¬ x.testBit p = true ∨ k ≤ p) → z.2.1 p = p8_aboves s p ∧ z.2.2 p = p8_belows s p))) (Q := fun r => ∀ p, p < n → (x.testBit p = true → r.1 p = zI (mkRat a b).num ∧ r.2 p = nI (mkRat a b).den) ∧ (¬ x.testBit p = true → r.1 p = p8_aboves s p ∧ r.2 p = p8_belows s p)) (d := n) (s := ((0 : Int32), p8_aboves s, p8_belows s)) (by
    rintro d ⟨i, f1, f2⟩ ⟨k, hk, hd, rfl, all⟩
    simp only at all ⊢
    rcases Nat.lt_or_ge k n with q | q
    · refine Or.inl ?_
      by_cases c : x.testBit k = true
      · refine ⟨n - (k + 1), (nI (k + 1), upd f1 k (zI (mkRat a b).num), upd f2 k (nI (mkRat a b).den)), ?_, by omega, k + 1, by omega, rfl, rfl, fun p hp => ⟨fun h1 h2 => ?_, fun h1 => ?_⟩⟩
        · unfold m_X8_lay_l13 m_X1_partOf
          rw [h4, if_neg (nI_ge q (by omega)), hasBit9 hx (by omega), if_pos c, Option.bind_some, if_neg (by decide), if_pos rfl, Option.bind_some, set_in (by omega) (by decide), Option.bind_some, if_neg (by decide), Option.bind_some, set_in (by omega) (by decide), Option.bind_some, nI_1]
          show some (Sum.inl (nI (k + 1), upd f1 k (J (mkRat a b).num).toInt32, upd f2 k (J ((mkRat a b).den : Int)).toInt32)) = _
          rw [J_32, J_32, zI_nat]
        · show upd f1 k _ p = _ ∧ upd f2 k _ p = _
          by_cases w : p = k
          · rw [w, upd_at, upd_at]; exact ⟨rfl, rfl⟩
          · rw [upd_ne w, upd_ne w]; exact (all p hp).1 h1 (by omega)
        · show upd f1 k _ p = _ ∧ upd f2 k _ p = _
          by_cases w : p = k
          · rcases h1 with h1 | h1
            · rw [w] at h1; exact absurd c h1
            · omega
          · rw [upd_ne w, upd_ne w]
            exact (all p hp).2 (h1.elim Or.inl (fun h => Or.inr (by omega)))
      · refine ⟨n - (k + 1), (nI (k + 1), f1, f2), ?_, by omega, k + 1, by omega, rfl, rfl, fun p hp => ⟨fun h1 h2 => ?_, fun h1 => ?_⟩⟩
        · unfold m_X8_lay_l13
          rw [h4, if_neg (nI_ge q (by omega)), hasBit9 hx (by omega), if_neg c, Option.bind_some, if_pos rfl, nI_1]
        · show f1 p = _ ∧ f2 p = _
          rcases Nat.lt_or_ge p k with w | w
          · exact (all p hp).1 h1 w
          · rw [show p = k by omega] at h1
            exact absurd h1 c
        · exact (all p hp).2 (h1.elim Or.inl (fun h => Or.inr (by omega)))
    · refine Or.inr ⟨(f1, f2), ?_, fun p hp => ⟨fun h1 => (all p hp).1 h1 (by omega), fun h1 => (all p hp).2 (Or.inl h1)⟩⟩
      unfold m_X8_lay_l13
      rw [h4, if_pos (nI_le q (by omega))]) ⟨0, Nat.zero_le _, rfl, rfl, fun p hp => ⟨fun _ h => absurd h (Nat.not_lt_zero p), fun _ => ⟨rfl, rfl⟩⟩⟩ (by omega)
  refine ⟨r.1, r.2, ?_, q⟩
  unfold m_X8_lay
  rw [make9 _ ra hb rb, Option.bind_some, e, Option.bind_some]
