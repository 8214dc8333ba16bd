/-! the class's tables over all sets; low sets; the next set down -/
theorem sm_single {g : Nat → Nat} {p : Nat} : ∀ {n : Nat}, p < n → sm (fun q => if (2 ^ p).testBit q = true then g q else 0) n = g p := by
  intro n
  induction n with
  | zero => intro h; omega
  | succ n ih =>
    intro h
    rw [sm]
    by_cases c : n = p
    · rw [if_pos (pow_bit.mpr c), c, sm_zero (fun i hi => if_neg (fun k => by have := pow_bit.mp k; omega)), Nat.zero_add]
    · rw [ih (by omega), if_neg (fun k => c (pow_bit.mp k)), Nat.add_zero]
theorem pow_add {p j : Nat} (h : j < 2 ^ p) : 2 ^ p + j = 2 ^ p ||| j := by
  have := Nat.two_pow_add_eq_or_of_lt h 1
  rw [Nat.mul_one] at this
  exact this
theorem add_two {p j : Nat} (h : j < 2 ^ p) (n : Nat) : ∀ i, i < n → ((2 ^ p + j).testBit i = true ↔ (2 ^ p).testBit i = true ∨ j.testBit i = true) ∧ ¬ ((2 ^ p).testBit i = true ∧ j.testBit i = true) := by
  intro i _
  rw [pow_add h, or_bit]
  refine ⟨Iff.rfl, fun k => ?_⟩
  have := bit_lt h k.2
  have := pow_bit.mp k.1
  omega
theorem suS_next {A : Sh} {p j : Nat} (hp : p < hN A) (h : j < 2 ^ p) : suS A (2 ^ p + j) = suS A j + wtA A p * mkA A p := by
  rw [suS_two (add_two h (hN A)), Nat.add_comm, Nat.mul_comm]
  unfold suS
  rw [sm_single (g := fun q => mkA A q * wtA A q) hp]
theorem wtS_next {A : Sh} {p j : Nat} (hp : p < hN A) (h : j < 2 ^ p) : wtS A (2 ^ p + j) = wtS A j + wtA A p := by
  rw [wtS_two (add_two h (hN A)), Nat.add_comm]
  unfold wtS
  rw [sm_single (g := wtA A) hp]
def SD (f : Nat → Int32) (A : Sh) (W N : Nat) : Prop := ∀ S, S < N → ∃ D, f S = nI D ∧ D < 2 ^ hN A ∧ ∀ q, D.testBit q = true ↔ ∃ p, S.testBit p = true ∧ Und A W q p
theorem markAt8 {s : T8} {A : Sh} (h : SV8 s A) (hok : okS A) {p : Nat} (hp : p < hN A) : m_X8_markAt s (nI p) = some (nI (mkA A p)) := by
  have n7 := hok.1.1
  unfold m_X8_markAt
  rw [get_in (by omega) (by decide), Option.bind_some, h.1 p hp]
theorem weightAt8 {s : T8} {A : Sh} (h : SV8 s A) (hok : okS A) {p : Nat} (hp : p < hN A) : m_X8_weightAt s (nI p) = some (nI (wtA A p)) := by
  have n7 := hok.1.1
  unfold m_X8_weightAt
  rw [get_in (by omega) (by decide), Option.bind_some, h.2.1 p hp]
theorem placeAt8 {s : T8} {A : Sh} (h : SV8 s A) (hok : okS A) {p : Nat} (hp : p < hN A) : m_X8_placeAt s (nI p) = some (nI (hP A p)) := by
  have n7 := hok.1.1
  unfold m_X8_placeAt
  rw [get_in (by omega) (by decide), Option.bind_some, h.2.2.1 p hp]
theorem undersOf5 {s : T5} {A : Sh} {W : Nat} (h : SO s A W) (hok : okS A) {p : Nat} (hp : p < hN A) : m_X5_undersOf s (nI p) = some (nI (bls A W p)) := by
  have n7 := hok.1.1
  unfold m_X5_undersOf
  rw [get_in (by omega) (by decide), Option.bind_some, h.2.1 p hp]
theorem oversOf5 {s : T5} {A : Sh} {W : Nat} (h : SO s A W) (hok : okS A) {p : Nat} (hp : p < hN A) : m_X5_oversOf s (nI p) = some (nI (ovs A W p)) := by
  have n7 := hok.1.1
  unfold m_X5_oversOf
  rw [get_in (by omega) (by decide), Option.bind_some, h.1 p hp]
theorem fill_in {s : T0} {A : Sh} {W : Nat} (hv : SV8 (p0_values s) A) (ho : SO (p0_order s) A W) (hok : okS A) {p : Nat} (hp : p < hN A) {f1 f2 f3 : Nat → Int32} (e1 : Eqn f1 (suS A) (2 ^ p)) (e2 : Eqn f2 (wtS A) (2 ^ p)) (e3 : SD f3 A W (2 ^ p)) : ∃ r : (Nat → Int32) × (Nat → Int32) × (Nat → Int32), lp (fun z : Int32 × (Nat → Int32) × (Nat → Int32) × (Nat → Int32) => m_X0_fillSets_l29_2 s (nI p) (nI (wtA A p)) z.1 z.2.1 z.2.2.1 z.2.2.2) fu ((0 : Int32), f1, f2, f3) = some r ∧ Eqn r.1 (suS A) (2 ^ (p + 1)) ∧ Eqn r.2.1 (wtS A) (2 ^ (p + 1)) ∧ SD r.2.2 A W (2 ^ (p + 1)) := by
  have n7 := hok.1.1
  have p7 : 2 ^ (p + 1) ≤ 128 := pow_le7 (by omega)
  have pp := Nat.two_pow_pos p
  have ps : 2 ^ (p + 1) = 2 ^ p + 2 ^ p := by rw [Nat.pow_succ]; omega
  refine lp_invf (I := fun d z => ∃ j, j ≤ 2 ^ p ∧ d = 2 ^ p - j ∧ z.1 = nI j ∧ Eqn z.2.1 (suS A) (2 ^ p + j) ∧ Eqn z.2.2.1 (wtS A) (2 ^ p + j) ∧ SD z.2.2.2 A W (2 ^ p + j)) (Q := _) ?_ (d := 2 ^ p) ⟨0, Nat.zero_le _, rfl, rfl, e1, e2, e3⟩ (by omega)
  rintro d ⟨i, g1, g2, g3⟩ ⟨j, hj, hd, rfl, q1, q2, q3⟩
  simp only at q1 q2 q3 ⊢
  rcases Nat.lt_or_ge j (2 ^ p) with q | q
  · refine Or.inl ?_
    obtain ⟨D, d1, d2, d3⟩ := q3 j (by omega)
    have bl := bls_lt A W p
    refine ⟨2 ^ p - (j + 1), (nI (j + 1), upd g1 (2 ^ p + j) (nI (suS A (2 ^ p + j))), upd g2 (2 ^ p + j) (nI (wtS A (2 ^ p + j))), upd g3 (2 ^ p + j) (nI (D ||| bls A W p))), ?_, by omega, j + 1, by omega, rfl, rfl, Eqn_congr (Eqn_push q1 (v := suS A (2 ^ p + j)) rfl) (fun i hi => by by_cases w : i = 2 ^ p + j <;> simp [w]), Eqn_congr (Eqn_push q2 (v := wtS A (2 ^ p + j)) rfl) (fun i hi => by by_cases w : i = 2 ^ p + j <;> simp [w]), fun S hS => ?_⟩
    · unfold m_X0_fillSets_l29_2
      rw [nI_shl1 _ (by omega), if_neg (nI_ge q (by omega)), get_in (by omega) (by decide), Option.bind_some, markAt8 hv hok hp, Option.bind_some, q1 j (by omega), nI_mul, nI_add, nI_add, ← suS_next hp q, set_in (by omega) (by decide), Option.bind_some, get_in (by omega) (by decide), Option.bind_some, q2 j (by omega), nI_add, ← wtS_next hp q, set_in (by omega) (by decide), Option.bind_some, get_in (by omega) (by decide), Option.bind_some, undersOf5 ho hok hp, Option.bind_some, d1, nI_or, set_in (by omega) (by decide), Option.bind_some, nI_1]
    · show ∃ D', upd g3 (2 ^ p + j) (nI (D ||| bls A W p)) S = nI D' ∧ _
      by_cases w : S = 2 ^ p + j
      · refine ⟨D ||| bls A W p, by rw [w, upd_at], or_lt d2 bl, fun x => ?_⟩
        rw [or_bit, d3, bls_bit hok, w, pow_add q]
        constructor
        · rintro (⟨y, y1, y2⟩ | y)
          · exact ⟨y, or_bit.mpr (Or.inr y1), y2⟩
          · exact ⟨p, or_bit.mpr (Or.inl (pow_bit.mpr rfl)), y⟩
        · rintro ⟨y, y1, y2⟩
          rcases or_bit.mp y1 with y1 | y1
          · rw [pow_bit.mp y1] at y2
            exact Or.inr y2
          · exact Or.inl ⟨y, y1, y2⟩
      · rw [upd_ne w]
        exact q3 S (by omega)
  · refine Or.inr ⟨(g1, g2, g3), ?_, Eqn_less q1 (by omega), Eqn_less q2 (by omega), fun S hS => q3 S (by omega)⟩
    unfold m_X0_fillSets_l29_2
    rw [nI_shl1 _ (by omega), if_pos (nI_le q (by omega))]
theorem fillSets9 {s : T0} {A : Sh} {W : Nat} (hv : SV8 (p0_values s) A) (ho : SO (p0_order s) A W) (hok : okS A) (z1 : p0_sums s 0 = 0) (z2 : p0_weighs s 0 = 0) (z3 : p0_downs s 0 = 0) : ∃ u, m_X0_fillSets s = some u ∧ Eqn u.1 (suS A) (2 ^ hN A) ∧ Eqn u.2.1 (wtS A) (2 ^ hN A) ∧ SD u.2.2 A W (2 ^ hN A) := by
  have n7 := hok.1.1
  obtain ⟨r, e, q⟩ := lp_invf (f := fun z : Int32 × (Nat → Int32) × (Nat → Int32) × (Nat → Int32) => m_X0_fillSets_l2 s z.1 z.2.1 z.2.2.1 z.2.2.2) (I := fun d z => ∃ k, k ≤ hN A ∧ d = hN A - k ∧ z.1 = nI k ∧ Eqn z.2.1 (suS A) (2 ^ k) ∧ Eqn z.2.2.1 (wtS A) (2 ^ k) ∧ SD z.2.2.2 A W (2 ^ k)) (Q := fun u => Eqn u.1 (suS A) (2 ^ hN A) ∧ Eqn u.2.1 (wtS A) (2 ^ hN A) ∧ SD u.2.2 A W (2 ^ hN A)) (d := hN A) (s := ((0 : Int32), p0_sums s, p0_weighs s, p0_downs s)) (by
    rintro d ⟨i, f1, f2, f3⟩ ⟨k, hk, hd, rfl, e1, e2, e3⟩
    simp only at e1 e2 e3 ⊢
    rcases Nat.lt_or_ge k (hN A) with q | q
    · obtain ⟨r, r1, r2, r3, r4⟩ := fill_in hv ho hok q e1 e2 e3
      refine Or.inl ⟨hN A - (k + 1), (nI (k + 1), r.1, r.2.1, r.2.2), ?_, by omega, k + 1, by omega, rfl, rfl, r2, r3, r4⟩
      unfold m_X0_fillSets_l2 m_X8_paperCount
      rw [Option.bind_some, hv.2.2.2, if_neg (nI_ge q (by omega)), weightAt8 hv hok q, Option.bind_some, r1, Option.bind_some, nI_1]
    · have ek : k = hN A := by omega
      rw [ek] at e1 e2 e3
      refine Or.inr ⟨(f1, f2, f3), ?_, e1, e2, e3⟩
      unfold m_X0_fillSets_l2 m_X8_paperCount
      rw [Option.bind_some, hv.2.2.2, if_pos (nI_le q (by omega))]) ⟨0, Nat.zero_le _, rfl, rfl, fun i hi => by
        have hi : i < 1 := hi
        rw [show i = 0 by omega]
        show p0_sums s 0 = nI (suS A 0)
        have : suS A 0 = 0 := sm_zero (fun i _ => if_neg (by rw [Nat.zero_testBit]; decide))
        rw [z1, this]; rfl, fun i hi => by
        have hi : i < 1 := hi
        rw [show i = 0 by omega]
        show p0_weighs s 0 = nI (wtS A 0)
        have : wtS A 0 = 0 := sm_zero (fun i _ => if_neg (by rw [Nat.zero_testBit]; decide))
        rw [z2, this]; rfl, fun S hS => by
        have hS : S < 1 := hS
        rw [show S = 0 by omega]
        refine ⟨0, z3, Nat.two_pow_pos _, fun q => ?_⟩
        rw [Nat.zero_testBit]
        exact ⟨fun h => (by cases h), fun ⟨p, hp, _⟩ => by rw [Nat.zero_testBit] at hp; exact hp⟩⟩ (by omega)
  refine ⟨(r.1, r.2.1, r.2.2), ?_, q⟩
  unfold m_X0_fillSets
  rw [e, Option.bind_some]
theorem isLow9 {s : T0} {A : Sh} {W : Nat} (hd : SD (p0_downs s) A W (2 ^ hN A)) (hok : okS A) {B R : Nat} (hB : B < 2 ^ hN A) (hR : R < 2 ^ hN A) : (m_X0_isLow s (nI B) (nI R) = some 1 ∧ low A W B R) ∨ (m_X0_isLow s (nI B) (nI R) = some 0 ∧ ¬ low A W B R) := by
  have p7 := pow_le7 hok.1.1
  obtain ⟨D, d1, d2, d3⟩ := hd B hB
  have le := dif_le (D &&& R) B
  have le2 : D &&& R ≤ D := Nat.and_le_left
  unfold m_X0_isLow
  rw [get_in (by omega) (by decide), Option.bind_some, d1, nI_and, nI_dif]
  by_cases c : dif (D &&& R) B = 0
  · rw [c, if_pos (show nI 0 = 0 from rfl)]
    refine Or.inl ⟨rfl, fun p q hp hu hq => Classical.byContradiction fun k => ?_⟩
    have : (dif (D &&& R) B).testBit q = true := dif_bitp.mpr ⟨and_bit.mpr ⟨(d3 q).mpr ⟨p, hp, hu⟩, hq⟩, k⟩
    rw [c, Nat.zero_testBit] at this
    cases this
  · rw [if_neg (show ¬ nI (dif (D &&& R) B) = 0 from fun k => c (nI_inj (b := 0) (by omega) (by decide) k))]
    refine Or.inr ⟨rfl, fun k => c (Nat.eq_of_testBit_eq fun q => ?_)⟩
    rw [Nat.zero_testBit]
    cases v : (dif (D &&& R) B).testBit q with
    | false => rfl
    | true =>
      rw [dif_bitp, and_bit, d3] at v
      obtain ⟨⟨⟨p, hp, hu⟩, hq⟩, hn⟩ := v
      exact absurd (k p q hp hu hq) hn
/-- the next set of the rest, downwards -/
theorem sub_next : ∀ (k R b x : Nat), b < 2 ^ k → sub b R → sub x R → x < b → x ≤ (b - 1) &&& R := by
  have hd : ∀ {a R : Nat}, sub a R → sub (a / 2) (R / 2) := fun h i hi => by
    rw [Nat.testBit_div_two] at hi ⊢
    exact h _ hi
  intro k
  induction k with
  | zero => intro R b x hb _ _ hx; rw [Nat.pow_zero] at hb; omega
  | succ k ih =>
    intro R b x hb hbR hxR hx
    rw [Nat.pow_succ] at hb
    have y1 : ((b - 1) &&& R) / 2 = (b - 1) / 2 &&& R / 2 := Nat.and_div_two
    rcases Nat.mod_two_eq_zero_or_one b with c | c
    · have e : (b - 1) / 2 = b / 2 - 1 := by omega
      have i := ih (R / 2) (b / 2) (x / 2) (by omega) (hd hbR) (hd hxR) (by omega)
      rw [← e, ← y1] at i
      by_cases cx : x % 2 = 1
      · have r1 : x.testBit 0 = true := by rw [Nat.testBit_zero, decide_eq_true_iff]; exact cx
        have r2 : ((b - 1) &&& R).testBit 0 = true := and_bit.mpr ⟨by rw [Nat.testBit_zero, decide_eq_true_iff]; omega, hxR 0 r1⟩
        rw [Nat.testBit_zero, decide_eq_true_iff] at r2
        omega
      · omega
    · have e : (b - 1) / 2 = b / 2 := by omega
      have e2 : b / 2 &&& R / 2 = b / 2 := sub_eq (fun i hi => (and_bit.mp hi).1) (fun i hi => and_bit.mpr ⟨hi, hd hbR i hi⟩)
      rw [e, e2] at y1
      omega
