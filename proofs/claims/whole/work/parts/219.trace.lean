/-! the class's way to those that a paper is under -/
theorem or_bit {a b i : Nat} : (a ||| b).testBit i = true ↔ a.testBit i = true ∨ b.testBit i = true := by
  rw [Nat.testBit_or, Bool.or_eq_true]
theorem and_bit {a b i : Nat} : (a &&& b).testBit i = true ↔ a.testBit i = true ∧ b.testBit i = true := by
  rw [Nat.testBit_and, Bool.and_eq_true]
theorem pow_bit {k i : Nat} : (2 ^ k).testBit i = true ↔ i = k := by
  rw [Nat.testBit_two_pow, decide_eq_true_iff]
  exact ⟨fun h => h.symm, fun h => h.symm⟩
theorem dif_bitp {a b i : Nat} : (dif a b).testBit i = true ↔ a.testBit i = true ∧ ¬ b.testBit i = true := by
  rw [dif_bit, Bool.and_eq_true, Bool.not_eq_true']
  cases b.testBit i <;> simp
theorem pow_le7 {n : Nat} (h : n ≤ 7) : 2 ^ n ≤ 128 := Nat.pow_le_pow_right (n := 2) (by decide) h
theorem trace_in {s : T6} {A : Sh} (h : S6 s A) (hok : okS A) {W : Nat} (hW : W < 2 ^ 12) {f : Nat → Int32} {G : Nat → Nat} (e : Eqn f G (hN A)) (lt : ∀ p, p < hN A → G p < 2 ^ hN A) (so : ∀ p q, p < hN A → (G p).testBit q = true → Und A W p q) : ∃ r : Int32 × (Nat → Int32), lp (fun z : Int32 × Int32 × (Nat → Int32) => m_X6_trace_l45_2 s 7 (nI W) z.1 z.2.1 z.2.2) fu ((0 : Int32), (0 : Int32), f) = some r ∧ ∃ G' : Nat → Nat, Eqn r.2 G' (hN A) ∧ (∀ p, p < hN A → G' p < 2 ^ hN A) ∧ (∀ p q, p < hN A → (G' p).testBit q = true → Und A W p q) ∧ (∀ r', r' < hU A → W.testBit r' = false → ∀ q, (q = hO A r' ∨ (G (hO A r')).testBit q = true) → (G' (hL A r')).testBit q = true) ∧ (r.1 = 1 ∨ (r.1 = 0 ∧ ∀ p, p < hN A → G' p = G p)) := by
  have n7 := hok.1.1
  have n12 := hok.2.1.1
  have p7 := pow_le7 n7
  obtain ⟨-, -, ⟨h1, h2, h3⟩, -⟩ := id h
  refine lp_invf (I := fun d z => ∃ (t : Nat) (G' : Nat → Nat), t ≤ hU A ∧ d = hU A - t ∧ z.2.1 = nI t ∧ Eqn z.2.2 G' (hN A) ∧ (∀ p, p < hN A → G' p < 2 ^ hN A) ∧ (∀ p q, p < hN A → (G' p).testBit q = true → Und A W p q) ∧ (∀ p q, p < hN A → (G p).testBit q = true → (G' p).testBit q = true) ∧ (∀ r', r' < t → W.testBit r' = false → ∀ q, (q = hO A r' ∨ (G (hO A r')).testBit q = true) → (G' (hL A r')).testBit q = true) ∧ (z.1 = 1 ∨ (z.1 = 0 ∧ ∀ p, p < hN A → G' p = G p))) (Q := _) ?_ (d := hU A) ?_ (by omega)
  · rintro d ⟨gr, i, f'⟩ ⟨t, G', ht, hd, rfl, e', lt', so', up', pr', gr'⟩
    simp only at e' gr' ⊢
    rcases Nat.lt_or_ge t (hU A) with q | q
    · refine Or.inl ?_
      obtain ⟨k1, k2, k3⟩ := hok.2.1.2 t q
      have x1 := lt' _ k1
      have x2 := lt' _ k2
      have x3 : 2 ^ hO A t < 2 ^ hN A := Nat.pow_lt_pow_right (by decide) k2
      have xX : G' (hL A t) ||| G' (hO A t) ||| 2 ^ hO A t < 2 ^ hN A := or_lt (or_lt x1 x2) x3
      have go : m_X6_trace_l45_2 s 7 (nI W) gr (nI t) f' = (if nI (G' (hL A t) ||| G' (hO A t) ||| 2 ^ hO A t) = nI (G' (hL A t)) then some (.inl (gr, nI (t + 1), f')) else (if W.testBit t = true then some (.inl (gr, nI (t + 1), f')) else some (.inl (1, nI (t + 1), upd f' (hL A t) (nI (G' (hL A t) ||| G' (hO A t) ||| 2 ^ hO A t)))))) := by
        unfold m_X6_trace_l45_2
        rw [h1, if_neg (nI_ge q (by omega)), get_in (by omega) (by decide), Option.bind_some, h2 t q, get_in (by omega) (by decide), Option.bind_some, e' _ k1, get_in (by omega) (by decide), Option.bind_some, h3 t q, get_in (by omega) (by decide), Option.bind_some, e' _ k2, Option.bind_some, nI_or, nI_shl1 _ (by omega), nI_or, Option.bind_some, nI_1, hasBit9 (by omega) (by omega)]
        by_cases c : nI (G' (hL A t) ||| G' (hO A t) ||| 2 ^ hO A t) = nI (G' (hL A t))
        · rw [if_pos c, if_pos c]
        · rw [if_neg c, if_neg c, Option.bind_some]
          by_cases c2 : W.testBit t = true
          · rw [if_pos c2, if_pos c2, if_neg (by decide)]
          · rw [if_neg c2, if_neg c2, if_pos rfl, set_in (by omega) (by decide), Option.bind_some]
      rw [go]
      by_cases c : nI (G' (hL A t) ||| G' (hO A t) ||| 2 ^ hO A t) = nI (G' (hL A t))
      · rw [if_pos c]
        have c' := nI_inj (by omega) (by omega) c
        refine ⟨hU A - (t + 1), _, rfl, by omega, t + 1, G', by omega, rfl, rfl, e', lt', so', up', fun r' hr' hw q' hq' => ?_, gr'⟩
        rcases Nat.lt_or_ge r' t with w | w
        · exact pr' r' w hw q' hq'
        · rw [show r' = t by omega] at hq' ⊢
          rw [← c', or_bit, or_bit, pow_bit]
          rcases hq' with w2 | w2
          · exact Or.inr w2
          · exact Or.inl (Or.inr (up' _ _ k2 w2))
      · rw [if_neg c]
        by_cases c2 : W.testBit t = true
        · rw [if_pos c2]
          refine ⟨hU A - (t + 1), _, rfl, by omega, t + 1, G', by omega, rfl, rfl, e', lt', so', up', fun r' hr' hw q' hq' => ?_, gr'⟩
          rcases Nat.lt_or_ge r' t with w | w
          · exact pr' r' w hw q' hq'
          · rw [show r' = t by omega, c2] at hw
            cases hw
        · rw [if_neg c2]
          have c3 : W.testBit t = false := by simpa using c2
          refine ⟨hU A - (t + 1), _, rfl, by omega, t + 1, fun p => if p = hL A t then G' (hL A t) ||| G' (hO A t) ||| 2 ^ hO A t else G' p, by omega, rfl, rfl, Eqn_upd e' rfl, fun p hp => ?_, fun p q' hp hq' => ?_, fun p q' hp hq' => ?_, fun r' hr' hw q' hq' => ?_, Or.inl rfl⟩
          · show (if p = hL A t then _ else _) < _
            by_cases w : p = hL A t
            · rw [if_pos w]; exact xX
            · rw [if_neg w]; exact lt' p hp
          · replace hq' : (if p = hL A t then G' (hL A t) ||| G' (hO A t) ||| 2 ^ hO A t else G' p).testBit q' = true := hq'
            by_cases w : p = hL A t
            · rw [if_pos w, or_bit, or_bit, pow_bit] at hq'
              rw [w]
              have ed : Und A W (hL A t) (hO A t) := Und_edg ⟨t, q, c3, rfl, rfl⟩
              rcases hq' with (w2 | w2) | w2
              · exact so' _ _ k1 w2
              · exact Und_tr ed (so' _ _ k2 w2)
              · rw [w2]; exact ed
            · rw [if_neg w] at hq'
              exact so' _ _ hp hq'
          · show (if p = hL A t then G' (hL A t) ||| G' (hO A t) ||| 2 ^ hO A t else G' p).testBit q' = true
            by_cases w : p = hL A t
            · rw [if_pos w, or_bit, or_bit]
              rw [w] at hq'
              exact Or.inl (Or.inl (up' _ _ k1 hq'))
            · rw [if_neg w]
              exact up' _ _ hp hq'
          · show (if hL A r' = hL A t then G' (hL A t) ||| G' (hO A t) ||| 2 ^ hO A t else G' (hL A r')).testBit q' = true
            rcases Nat.lt_or_ge r' t with w | w
            · have w1 := pr' r' w hw q' hq'
              by_cases w2 : hL A r' = hL A t
              · rw [if_pos w2, or_bit, or_bit]
                rw [w2] at w1
                exact Or.inl (Or.inl w1)
              · rw [if_neg w2]
                exact w1
            · rw [show r' = t by omega] at hq' ⊢
              rw [if_pos rfl, or_bit, or_bit, pow_bit]
              rcases hq' with w2 | w2
              · exact Or.inr w2
              · exact Or.inl (Or.inr (up' _ _ k2 w2))
    · refine Or.inr ⟨(gr, f'), ?_, G', e', lt', so', fun r' hr' => pr' r' (by omega), gr'⟩
      unfold m_X6_trace_l45_2
      rw [h1, if_pos (nI_le q (by omega))]
  · exact ⟨0, G, Nat.zero_le _, rfl, rfl, e, lt, so, fun _ _ _ q => q, fun r' hr' => absurd hr' (Nat.not_lt_zero r'), Or.inr ⟨rfl, fun _ _ => rfl⟩⟩
theorem trace6 {s : T6} {A : Sh} (h : S6 s A) (hok : okS A) {W : Nat} (hW : W < 2 ^ 12) (f : Nat → Int32) : ∃ g, m_X6_trace s 7 f (nI W) = some g ∧ Eqn g (ovs A W) (hN A) := by
  have n7 := hok.1.1
  obtain ⟨f0, z1, z2⟩ : ∃ f0, lp (fun z : Int32 × (Nat → Int32) => m_X6_trace_l2 s 7 z.1 z.2) fu ((0 : Int32), f) = some f0 ∧ ∀ p, p < hN A → f0 p = 0 := by
    refine ⟨fun j => if j < hN A then 0 else f j, lp_for (fun t => (nI t, fun j => if j < t then 0 else f j)) (hN A) (fun t ht => ?_) ?_ (by omega) ?_, fun p hp => if_pos hp⟩
    · simp only [m_X6_trace_l2]
      rw [h.1, if_neg (nI_ge ht (by omega)), set_in (by omega) (by decide), Option.bind_some, nI_1]
      refine congrArg (fun z => some (Sum.inl (nI (t + 1), z))) (funext fun j => ?_)
      by_cases c : j = t
      · rw [c, upd_at, if_pos (by omega)]
      · rw [upd_ne c]
        by_cases c2 : j < t
        · rw [if_pos c2, if_pos (by omega)]
        · rw [if_neg c2, if_neg (by omega)]
    · simp only [m_X6_trace_l2]
      rw [h.1, if_pos (nI_le (Nat.le_refl _) (by omega))]
    · rfl
  have key : ∃ g, lp (fun z : Int32 × Int32 × (Nat → Int32) => m_X6_trace_l27 s 7 (nI W) z.1 z.2.1 z.2.2) fu ((1 : Int32), (0 : Int32), f0) = some g ∧ Eqn g (ovs A W) (hN A) := by
    refine lp_invf (I := fun d z => ∃ (k : Nat) (G : Nat → Nat), k ≤ hN A ∧ d = hN A - k ∧ z.2.1 = nI k ∧ Eqn z.2.2 G (hN A) ∧ (∀ p, p < hN A → G p < 2 ^ hN A) ∧ (∀ p q, p < hN A → (G p).testBit q = true → Und A W p q) ∧ (∀ p q, p < hN A → rp A W k p q → (G p).testBit q = true) ∧ (z.1 = 1 ∨ (z.1 = 0 ∧ ∀ r, r < hU A → W.testBit r = false → ∀ q, (q = hO A r ∨ (G (hO A r)).testBit q = true) → (G (hL A r)).testBit q = true))) (Q := _) ?_ (d := hN A) ?_ (by omega)
    · rintro d ⟨gr, i, f'⟩ ⟨k, G, hk, hd, rfl, e', lt', so', cm', gr'⟩
      simp only at e' gr' ⊢
      have fin : (∀ p q, p < hN A → Und A W p q → (G p).testBit q = true) → Eqn f' (ovs A W) (hN A) := by
        intro all p hp
        rw [e' p hp]
        refine congrArg nI (bits_iff (lt' p hp) (bs_lt _ _) (fun q hq => ?_))
        rw [ovs_bit hok]
        exact ⟨so' p q hp, all p q hp⟩
      rcases Nat.lt_or_ge k (hN A) with q | q
      · rcases gr' with rfl | ⟨rfl, cl⟩
        · refine Or.inl ?_
          obtain ⟨r, y1, G', y2, y3, y4, y5, y6⟩ := trace_in h hok hW e' lt' so'
          refine ⟨hN A - (k + 1), (r.1, nI (k + 1), r.2), ?_, by omega, k + 1, G', by omega, rfl, rfl, y2, y3, y4, fun p q' hp hr => ?_, ?_⟩
          · unfold m_X6_trace_l27
            rw [h.1, if_neg (nI_ge q (by omega)), if_neg (by decide), y1, Option.bind_some, nI_1]
          · rcases rp_head k hr with ⟨r', w1, w2, rfl, rfl⟩ | ⟨c, ⟨r', w1, w2, rfl, rfl⟩, w3⟩
            · exact y5 r' w1 w2 _ (Or.inl rfl)
            · exact y5 r' w1 w2 _ (Or.inr (cm' _ _ (hok.2.1.2 r' w1).2.1 w3))
          · rcases y6 with y6 | ⟨y6, y7⟩
            · exact Or.inl y6
            · refine Or.inr ⟨y6, fun r' w1 w2 q' hq' => y5 r' w1 w2 q' ?_⟩
              rw [y7 _ (hok.2.1.2 r' w1).2.1] at hq'
              exact hq'
        · refine Or.inr ⟨f', ?_, fin fun p q' hp hu => ?_⟩
          · unfold m_X6_trace_l27
            rw [h.1, if_neg (nI_ge q (by omega)), if_pos rfl]
          · refine (hu (fun a b => (G a).testBit b = true ∧ ∀ d, (G b).testBit d = true → (G a).testBit d = true) ?_ ?_).1
            · rintro x y ⟨r, w1, w2, rfl, rfl⟩
              exact ⟨cl r w1 w2 _ (Or.inl rfl), fun d hd => cl r w1 w2 _ (Or.inr hd)⟩
            · intro x y z u1 u2
              exact ⟨u1.2 _ u2.1, fun d hd => u1.2 _ (u2.2 _ hd)⟩
      · refine Or.inr ⟨f', ?_, fin fun p q' hp hu => ?_⟩
        · unfold m_X6_trace_l27
          rw [h.1, if_pos (nI_le q (by omega))]
        · have := rp_full hok hu
          rw [show hN A = k by omega] at this
          exact cm' p q' hp this
    · refine ⟨0, fun _ => 0, Nat.zero_le _, rfl, rfl, fun p hp => z2 p hp, fun p hp => Nat.two_pow_pos _, fun p q hp hq => ?_, fun p q hp hr => hr.elim, Or.inl rfl⟩
      rw [Nat.zero_testBit] at hq
      cases hq
  obtain ⟨g, g1, g2⟩ := key
  refine ⟨g, ?_, g2⟩
  unfold m_X6_trace
  rw [z1, Option.bind_some, g1, Option.bind_some]
theorem isUnder6 {s : T6} {A : Sh} (h : S6 s A) (hok : okS A) {a b : Nat} (ha : a < hN A) (hb : b < hN A) : ∃ g, m_X6_isUnder s (nI a) (nI b) = some (if undB A 0 a b then 1 else 0, g) := by
  have n7 := hok.1.1
  have p7 := pow_le7 n7
  obtain ⟨g, g1, g2⟩ := trace6 h hok (W := 0) (by decide) (p6_reached s)
  have g3 : m_X6_trace_0_0_17 s 0 = some g := g1
  refine ⟨g, ?_⟩
  have lt : ovs A 0 a < 2 ^ hN A := bs_lt _ _
  unfold m_X6_isUnder
  rw [g3, Option.bind_some, get_in (by omega) (by decide), Option.bind_some, g2 a ha, hasBit9 (by omega) (by omega), Option.bind_some]
  have : (ovs A 0 a).testBit b = undB A 0 a b := by
    unfold ovs
    rw [bs_bit, decide_eq_true hb, Bool.true_and]
  rw [this]
