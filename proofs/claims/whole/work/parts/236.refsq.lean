/-! the reference by SQUARE -/
theorem J_nlt {a b : Nat} (ha : a < 4611686018427387904) (hb : b < 4611686018427387904) : J (a : Int) < J (b : Int) ↔ a < b := by
  rw [J_lt (rng_nat ha) (rng_nat hb)]
  omega
theorem J_neq {a b : Nat} (ha : a < 4611686018427387904) (hb : b < 4611686018427387904) : J (a : Int) = J (b : Int) ↔ a = b := by
  rw [J_inj (rng_nat ha) (rng_nat hb)]
  omega
theorem byMean10 {s : T10} {A : Sh} {W : Nat} (hok : okS A) (h : SR s A W) {R : Nat} (hR : R < 2 ^ hN A) (h0 : R ≠ 0) (za zb : Int64) (fa fb : Nat → Int32) : ∃ B, lp (fun z : Int32 × Int64 × Int64 × Int32 => m_X10_leastSquares_l33_2 s (nI R) za zb fa fb z.1 z.2.1 z.2.2.1 z.2.2.2) fu (nI R, J (suS A R : Int), J (wtS A R : Int), (1 : Int32)) = some (nI B, J (suS A B : Int), J (wtS A B : Int)) ∧ bestq A W R B := by
  have n7 := hok.1.1
  have p7 := pow_le7 n7
  have h' := SR_v h za zb fa fb
  have wpos : ∀ S, sub S R → S ≠ 0 → 0 < wtS A S := fun S h1 h2 => by
    obtain ⟨i, hi⟩ := bit_of_ne0 h2
    exact wtS_pos hok (bit_lt hR (h1 i hi)) hi
  obtain ⟨r, e, B, q1, q2⟩ := lp_invf (f := fun z : Int32 × Int64 × Int64 × Int32 => m_X10_leastSquares_l33_2 s (nI R) za zb fa fb z.1 z.2.1 z.2.2.1 z.2.2.2) (I := fun d z => ∃ t B, 1 ≤ t ∧ t ≤ 2 ^ hN A ∧ d = 2 ^ hN A - t ∧ z.2.2.2 = nI t ∧ z.1 = nI B ∧ z.2.1 = J (suS A B : Int) ∧ z.2.2.1 = J (wtS A B : Int) ∧ sub B R ∧ B ≠ 0 ∧ low A W B R ∧ (∀ S, S < t → sub S R → S ≠ 0 → low A W S R → suS A B * wtS A S ≤ suS A S * wtS A B ∧ (suS A B * wtS A S = suS A S * wtS A B → pcn S ≤ pcn B))) (Q := fun r => ∃ B, r = (nI B, J (suS A B : Int), J (wtS A B : Int)) ∧ bestq A W R B) (d := 2 ^ hN A - 1) (s := (nI R, J (suS A R : Int), J (wtS A R : Int), (1 : Int32))) (by
    rintro d ⟨z1, z2, z3, z4⟩ ⟨t, B, t1, tn, hd, rfl, rfl, rfl, rfl, sB, B0, lB, all⟩
    simp only
    have lB2 := sub_le sB
    rcases Nat.lt_or_ge t (2 ^ hN A) with q | q
    · refine Or.inl ?_
      have ld := dif_le t R
      have p1 := prod_lt hok t B
      have p2 := prod_lt hok B t
      have b1 := pcn_le t (by omega)
      have b2 := pcn_le B (by omega)
      have go : m_X10_leastSquares_l33_2 s (nI R) za zb fa fb (nI B) (J (suS A B : Int)) (J (wtS A B : Int)) (nI t) = if dif t R = 0 then ((m_X10_isLow (u10_valueDown fb (u10_valueUp fa (u10_down zb (u10_up za s)))) (nI t) (nI R)).bind fun x57 => if x57 = 0 then some (.inl (nI B, J (suS A B : Int), J (wtS A B : Int), nI (t + 1))) else if suS A t * wtS A B < suS A B * wtS A t then some (.inl (nI t, J (suS A t : Int), J (wtS A t : Int), nI (t + 1))) else if suS A t * wtS A B = suS A B * wtS A t then (if pcn t ≤ pcn B then some (.inl (nI B, J (suS A B : Int), J (wtS A B : Int), nI (t + 1))) else some (.inl (nI t, J (suS A t : Int), J (wtS A t : Int), nI (t + 1)))) else some (.inl (nI B, J (suS A B : Int), J (wtS A B : Int), nI (t + 1)))) else some (.inl (nI B, J (suS A B : Int), J (wtS A B : Int), nI (t + 1))) := by
        unfold m_X10_leastSquares_l33_2
        have w1 := wtS_le hok t
        have w2 := suS_le hok t
        rw [h.1.1, nI_shl1 _ (by omega), if_neg (nI_ge q (by omega)), nI_dif, sumOf10 h'.1 hok q, weightOf10 h'.1 hok q, bc7 _ (by omega), bc7 _ (by omega)]
        simp only [Option.bind_some, nI_1, nI_64 (show suS A t < 2 ^ 31 by omega), nI_64 (show wtS A t < 2 ^ 31 by omega), J_mul, ← Int.natCast_mul]
        by_cases c : dif t R = 0
        · rw [if_pos c, c, if_pos (show nI 0 = 0 from rfl)]
          congr 1
          funext x57
          by_cases c1 : suS A t * wtS A B < suS A B * wtS A t
          · rw [if_pos c1, if_pos ((J_nlt (by omega) (by omega)).mpr c1)]
          · rw [if_neg c1, if_neg (fun k => c1 ((J_nlt (by omega) (by omega)).mp k))]
            by_cases c2 : suS A t * wtS A B = suS A B * wtS A t
            · rw [if_pos c2, if_pos ((J_neq (by omega) (by omega)).mpr c2)]
              by_cases c3 : pcn t ≤ pcn B
              · rw [if_pos c3, if_pos ((nI_lei (by omega) (by omega)).mpr c3)]
              · rw [if_neg c3, if_neg (fun k => c3 ((nI_lei (by omega) (by omega)).mp k))]
            · rw [if_neg c2, if_neg (fun k => c2 ((J_neq (by omega) (by omega)).mp k))]
        · rw [if_neg c, if_neg (show ¬ nI (dif t R) = 0 from fun k => c (nI_inj (b := 0) (by omega) (by decide) k))]
      rw [go]
      have keep : (∀ S, S = t → sub S R → S ≠ 0 → low A W S R → suS A B * wtS A S ≤ suS A S * wtS A B ∧ (suS A B * wtS A S = suS A S * wtS A B → pcn S ≤ pcn B)) → ∃ t' B', 1 ≤ t' ∧ t' ≤ 2 ^ hN A ∧ 2 ^ hN A - (t + 1) = 2 ^ hN A - t' ∧ nI (t + 1) = nI t' ∧ nI B = nI B' ∧ J (suS A B : Int) = J (suS A B' : Int) ∧ J (wtS A B : Int) = J (wtS A B' : Int) ∧ sub B' R ∧ B' ≠ 0 ∧ low A W B' R ∧ (∀ S, S < t' → sub S R → S ≠ 0 → low A W S R → suS A B' * wtS A S ≤ suS A S * wtS A B' ∧ (suS A B' * wtS A S = suS A S * wtS A B' → pcn S ≤ pcn B')) := by
        intro no
        refine ⟨t + 1, B, by omega, by omega, rfl, rfl, rfl, rfl, rfl, sB, B0, lB, fun S h1 h2 h3 h4 => ?_⟩
        rcases Nat.lt_or_ge S t with w | w
        · exact all S w h2 h3 h4
        · exact no S (by omega) h2 h3 h4
      have new : sub t R → low A W t R → (∀ S, S < t → sub S R → S ≠ 0 → low A W S R → suS A t * wtS A S ≤ suS A S * wtS A t ∧ (suS A t * wtS A S = suS A S * wtS A t → pcn S ≤ pcn t)) → ∃ t' B', 1 ≤ t' ∧ t' ≤ 2 ^ hN A ∧ 2 ^ hN A - (t + 1) = 2 ^ hN A - t' ∧ nI (t + 1) = nI t' ∧ nI t = nI B' ∧ J (suS A t : Int) = J (suS A B' : Int) ∧ J (wtS A t : Int) = J (wtS A B' : Int) ∧ sub B' R ∧ B' ≠ 0 ∧ low A W B' R ∧ (∀ S, S < t' → sub S R → S ≠ 0 → low A W S R → suS A B' * wtS A S ≤ suS A S * wtS A B' ∧ (suS A B' * wtS A S = suS A S * wtS A B' → pcn S ≤ pcn B')) := by
        intro st lt no
        refine ⟨t + 1, t, by omega, by omega, rfl, rfl, rfl, rfl, rfl, st, by omega, lt, fun S h1 h2 h3 h4 => ?_⟩
        rcases Nat.lt_or_ge S t with w | w
        · exact no S w h2 h3 h4
        · rw [show S = t by omega]
          exact ⟨Nat.le_refl _, fun _ => Nat.le_refl _⟩
      by_cases c : dif t R = 0
      · have st : sub t R := fun i hi => Classical.byContradiction fun k => by
          have : (dif t R).testBit i = true := dif_bitp.mpr ⟨hi, k⟩
          rw [c, Nat.zero_testBit] at this
          cases this
        rw [if_pos c]
        rcases isLow10 h' hok (B := t) (R := R) q hR with ⟨l1, l2⟩ | ⟨l1, l2⟩
        · rw [l1, Option.bind_some, if_neg (by decide)]
          by_cases c1 : suS A t * wtS A B < suS A B * wtS A t
          · rw [if_pos c1]
            refine ⟨_, _, rfl, by omega, new st l2 (fun S h1 h2 h3 h4 => ?_)⟩
            have := nl_new (wpos S h2 h3) c1 (all S h1 h2 h3 h4).1
            exact ⟨by omega, fun e => absurd e (by omega)⟩
          · rw [if_neg c1]
            by_cases c2 : suS A t * wtS A B = suS A B * wtS A t
            · rw [if_pos c2]
              by_cases c3 : pcn t ≤ pcn B
              · rw [if_pos c3]
                refine ⟨_, _, rfl, by omega, keep (fun S h1 _ _ _ => ?_)⟩
                rw [h1]
                exact ⟨by omega, fun _ => c3⟩
              · rw [if_neg c3]
                refine ⟨_, _, rfl, by omega, new st l2 (fun S h1 h2 h3 h4 => ?_)⟩
                have a1 := all S h1 h2 h3 h4
                have a2 := mean_same (wpos B sB B0) (wpos t st (by omega)) c2 a1.1
                exact ⟨a2.1, fun e => by have := a1.2 (a2.2 e); omega⟩
            · rw [if_neg c2]
              refine ⟨_, _, rfl, by omega, keep (fun S h1 _ _ _ => ?_)⟩
              rw [h1]
              exact ⟨by omega, fun e => absurd e.symm c2⟩
        · rw [l1, Option.bind_some, if_pos rfl]
          exact ⟨_, _, rfl, by omega, keep (fun S h1 _ _ h4 => by rw [h1] at h4; exact absurd h4 l2)⟩
      · rw [if_neg c]
        refine ⟨_, _, rfl, by omega, keep (fun S h1 h2 _ _ => ?_)⟩
        rw [h1] at h2
        refine absurd (Nat.eq_of_testBit_eq fun i => ?_) c
        rw [Nat.zero_testBit, dif_bit]
        have := h2 i
        cases k : t.testBit i with
        | false => rfl
        | true => rw [this k]; rfl
    · refine Or.inr ⟨(nI B, J (suS A B : Int), J (wtS A B : Int)), ?_, B, rfl, best_cnt (by omega) ⟨sB, B0, lB, fun S h1 h2 h3 => (all S (by have := sub_lt h1 hR; omega) h1 h2 h3).1⟩ (fun S h1 h2 h3 => (all S (by have := sub_lt h1 hR; omega) h1 h2 h3).2)⟩
      unfold m_X10_leastSquares_l33_2
      rw [h.1.1, nI_shl1 _ (by omega), if_pos (nI_le q (by omega))]) ⟨1, R, Nat.le_refl 1, Nat.two_pow_pos _, rfl, rfl, rfl, rfl, rfl, fun i hi => hi, h0, low_self A W R, fun S h1 _ h3 _ => absurd (show S = 0 by omega) h3⟩ (by omega)
  exact ⟨B, by rw [e, q1], q2⟩
theorem getAll10 {s : T10} {A : Sh} {W : Nat} (hok : okS A) (h : SR s A W) {B a b : Nat} (hB : B < 2 ^ hN A) (ra : a < 4611686018427387904) (hb : 0 < b) (rb : b < 4611686018427387904) (za zb : Int64) (fa fb : Nat → Int32) : ∃ ya yb ga gb, lp (fun z : Int32 × Int64 × Int64 × (Nat → Int32) × (Nat → Int32) => m_X10_leastSquares_l146_2 s (nI B, J (a : Int), J (b : Int)) z.1 z.2.1 z.2.2.1 z.2.2.2.1 z.2.2.2.2) fu ((0 : Int32), za, zb, fa, fb) = some (ya, yb, ga, gb) ∧ ∀ p, p < hN A → (B.testBit p = true → ga p = nI (a / Nat.gcd a b) ∧ gb p = nI (b / Nat.gcd a b)) ∧ (¬ B.testBit p = true → ga p = fa p ∧ gb p = fb p) := by
  have n7 := hok.1.1
  have p7 := pow_le7 n7
  obtain ⟨r, e, q⟩ := lp_invf (f := fun z : Int32 × Int64 × Int64 × (Nat → Int32) × (Nat → Int32) => m_X10_leastSquares_l146_2 s (nI B, J (a : Int), J (b : Int)) z.1 z.2.1 z.2.2.1 z.2.2.2.1 z.2.2.2.2) (I := fun c z => ∃ k, k ≤ hN A ∧ c = hN A - k ∧ z.1 = nI k ∧ ∀ p, p < hN A → (B.testBit p = true → p < k → z.2.2.2.1 p = nI (a / Nat.gcd a b) ∧ z.2.2.2.2 p = nI (b / Nat.gcd a b)) ∧ ((¬ B.testBit p = true ∨ k ≤ p) → z.2.2.2.1 p = fa p ∧ z.2.2.2.2 p = fb p)) (Q := fun r => ∀ p, p < hN A → (B.testBit p = true → r.2.2.1 p = nI (a / Nat.gcd a b) ∧ r.2.2.2 p = nI (b / Nat.gcd a b)) ∧ (¬ B.testBit p = true → r.2.2.1 p = fa p ∧ r.2.2.2 p = fb p)) (d := hN A) (s := ((0 : Int32), za, zb, fa, fb)) (by
    rintro c ⟨i, ya, yb, ga, gb⟩ ⟨k, hk, hc, rfl, all⟩
    simp only at all ⊢
    rcases Nat.lt_or_ge k (hN A) with q | q
    · refine Or.inl ?_
      by_cases c1 : B.testBit k = true
      · refine ⟨hN A - (k + 1), (nI (k + 1), J ((a / Nat.gcd a b : Nat) : Int), J ((b / Nat.gcd a b : Nat) : Int), upd ga k (nI (a / Nat.gcd a b)), upd gb k (nI (b / Nat.gcd a b))), ?_, by omega, k + 1, by omega, rfl, rfl, fun p hp => ⟨fun h1 h2 => ?_, fun h1 => ?_⟩⟩
        · unfold m_X10_leastSquares_l146_2
          rw [h.1.1, if_neg (nI_ge q (by omega)), has10 (by omega) (by omega), if_pos c1, Option.bind_some, if_neg (by decide), gets10 _ (by omega) a ra hb rb, Option.bind_some, nI_1]
        · show upd ga k _ p = _ ∧ upd gb k _ p = _
          by_cases w : p = k
          · rw [w, upd_at, upd_at]; exact ⟨rfl, rfl⟩
          · rw [upd_ne w, upd_ne w]; exact (all p hp).1 h1 (by omega)
        · show upd ga k _ p = _ ∧ upd gb k _ p = _
          by_cases w : p = k
          · rcases h1 with h1 | h1
            · rw [w] at h1; exact absurd c1 h1
            · omega
          · rw [upd_ne w, upd_ne w]
            exact (all p hp).2 (h1.elim Or.inl (fun h => Or.inr (by omega)))
      · refine ⟨hN A - (k + 1), (nI (k + 1), ya, yb, ga, gb), ?_, by omega, k + 1, by omega, rfl, rfl, fun p hp => ⟨fun h1 h2 => ?_, fun h1 => ?_⟩⟩
        · unfold m_X10_leastSquares_l146_2
          rw [h.1.1, if_neg (nI_ge q (by omega)), has10 (by omega) (by omega), if_neg c1, Option.bind_some, if_pos rfl, nI_1]
        · show ga p = _ ∧ gb p = _
          rcases Nat.lt_or_ge p k with w | w
          · exact (all p hp).1 h1 w
          · rw [show p = k by omega] at h1
            exact absurd h1 c1
        · exact (all p hp).2 (h1.elim Or.inl (fun h => Or.inr (by omega)))
    · refine Or.inr ⟨(ya, yb, ga, gb), ?_, fun p hp => ⟨fun h1 => (all p hp).1 h1 (by omega), fun h1 => (all p hp).2 (Or.inl h1)⟩⟩
      unfold m_X10_leastSquares_l146_2
      rw [h.1.1, if_pos (nI_le q (by omega))]) ⟨0, Nat.zero_le _, rfl, rfl, fun p hp => ⟨fun _ h => absurd h (Nat.not_lt_zero p), fun _ => ⟨rfl, rfl⟩⟩⟩ (by omega)
  exact ⟨r.1, r.2.1, r.2.2.1, r.2.2.2, e, q⟩
theorem squares10 {s : T10} {A : Sh} {W : Nat} (hok : okS A) (h : SR s A W) : ∃ r, m_X10_leastSquares s = some r ∧ ∃ u d, Sp0 A W u d ∧ Lv A u d ∧ Eqn r.2.2.1 u (hN A) ∧ Eqn r.2.2.2 d (hN A) := by
  have n7 := hok.1.1
  have p7 := pow_le7 n7
  have al := allS_lt A
  obtain ⟨r, e, u, d, q1, q2, q3, q4⟩ := lp_invf (f := fun z : Int32 × Int64 × Int64 × (Nat → Int32) × (Nat → Int32) => m_X10_leastSquares_l9 s z.1 z.2.1 z.2.2.1 z.2.2.2.1 z.2.2.2.2) (I := fun c z => ∃ R u d, c = pcn R ∧ z.1 = nI R ∧ R < 2 ^ hN A ∧ GI A W R u d ∧ GL A R u d ∧ (∀ p, p < hN A → ¬ R.testBit p = true → z.2.2.2.1 p = nI (u p) ∧ z.2.2.2.2 p = nI (d p))) (Q := fun r => ∃ u d, Sp0 A W u d ∧ Lv A u d ∧ Eqn r.2.2.1 u (hN A) ∧ Eqn r.2.2.2 d (hN A)) (d := pcn (allS A)) (s := (nI (allS A), p10_up s, p10_down s, p10_valueUp s, p10_valueDown s)) (by
    rintro c ⟨z1, za, zb, fa, fb⟩ ⟨R, u, d, rfl, rfl, hR, g, l, all⟩
    simp only at all ⊢
    by_cases c0 : R = 0
    · have ok : ∀ p, ¬ R.testBit p = true := fun p => by rw [c0, Nat.zero_testBit]; decide
      refine Or.inr ⟨(za, zb, fa, fb), ?_, u, d, GI_end (by rw [c0] at g; exact g), GL_end (by rw [c0] at l; exact l), fun p hp => (all p hp (ok p)).1, fun p hp => (all p hp (ok p)).2⟩
      unfold m_X10_leastSquares_l9
      rw [c0, if_pos (show nI 0 = 0 from rfl)]
    · have n0 : ¬ nI R = 0 := fun x => c0 (nI_inj (b := 0) (by omega) (by decide) x)
      have h' := SR_v h za zb fa fb
      have v1 := wtS_le hok R
      have v2 := suS_le hok R
      obtain ⟨B, b1, b2⟩ := byMean10 hok h hR c0 za zb fa fb
      have lB := sub_le b2.1
      obtain ⟨i0, hi0⟩ := bit_of_ne0 b2.2.1
      have wB : 0 < wtS A B := wtS_pos hok (bit_lt hR (b2.1 i0 hi0)) hi0
      have w1 := wtS_le hok B
      have w2 := suS_le hok B
      obtain ⟨m1, m2, m3, m4, m5⟩ := red_nat (suS A B) wB
      obtain ⟨ya, yb, ga, gb, y1, y2⟩ := getAll10 hok h (B := B) (a := suS A B) (b := wtS A B) (by omega) (by omega) wB (by omega) za zb fa fb
      have k1 : ∀ p, p < hN A → ¬ R.testBit p = true → (if B.testBit p = true then suS A B / Nat.gcd (suS A B) (wtS A B) else u p) = u p ∧ (if B.testBit p = true then wtS A B / Nat.gcd (suS A B) (wtS A B) else d p) = d p := fun p hp h => by
        have nb : ¬ B.testBit p = true := fun x => h (b2.1 p x)
        exact ⟨if_neg nb, if_neg nb⟩
      refine Or.inl ⟨pcn (dif R B), (nI (dif R B), ya, yb, ga, gb), ?_, pcn_dif (by omega) b2.1 b2.2.1, dif R B, fun p => if B.testBit p = true then suS A B / Nat.gcd (suS A B) (wtS A B) else u p, fun p => if B.testBit p = true then wtS A B / Nat.gcd (suS A B) (wtS A B) else d p, rfl, rfl, dif_lt hR, GI_step hok g b2 k1 (fun p hp h => ?_), GL_step (x := suS A B / Nat.gcd (suS A B) (wtS A B)) (y := wtS A B / Nat.gcd (suS A B) (wtS A B)) g.1 g l b2 k1 (fun p hp h => ⟨if_pos h, if_pos h⟩) m5, fun p hp h => ?_⟩
      · unfold m_X10_leastSquares_l9
        rw [if_neg n0, sumOf10 h'.1 hok hR, Option.bind_some, weightOf10 h'.1 hok hR, Option.bind_some, nI_64 (by omega), nI_64 (by omega), b1, Option.bind_some, y1, Option.bind_some, nI_dif]
      · simp only [if_pos h]
        exact ⟨m3, m4, m5⟩
      · show ga p = nI (if B.testBit p = true then suS A B / Nat.gcd (suS A B) (wtS A B) else u p) ∧ gb p = nI (if B.testBit p = true then wtS A B / Nat.gcd (suS A B) (wtS A B) else d p)
        by_cases cb : B.testBit p = true
        · rw [if_pos cb, if_pos cb]
          exact (y2 p hp).1 cb
        · rw [if_neg cb, if_neg cb, ((y2 p hp).2 cb).1, ((y2 p hp).2 cb).2]
          exact all p hp (fun x => h (dif_bitp.mpr ⟨x, cb⟩))) ⟨allS A, fun _ => 0, fun _ => 1, rfl, rfl, al, GI_start A W _ _, fun p hp h => absurd (allS_bit.mpr hp) h, fun p hp h => absurd (allS_bit.mpr hp) h⟩ (by have := pcn_le (allS A) (by omega); omega)
  refine ⟨(r.1, r.2.1, r.2.2.1, r.2.2.2), ?_, u, d, q1, q2, q3, q4⟩
  unfold m_X10_leastSquares
  rw [h.1.1, nI_shl1 _ (by omega), nI_pred_of (Nat.two_pow_pos _), Option.bind_some, e, Option.bind_some]
