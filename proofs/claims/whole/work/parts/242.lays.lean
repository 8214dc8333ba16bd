/-! lays -/
def keep9h (s : T9) : T6 × Int32 × T3 × (Nat → Int32) × Int32 := (p9_kept s, p9_isKept s, p9_letters s, p9_told s, p9_toldCount s)
def keep10h (s : T10) : Int32 × (Nat → Int32) × Int32 × (Nat → Int32) × Int32 × (Nat → Int32) := (p10_hasImage s, p10_imaged s, p10_letters s, p10_letter s, p10_tolds s, p10_told s)
theorem Rel_qH {s9 s9' : T9} {s10 s10' : T10} (rI : RelI s9 s10) (rL : RelL s9 s10) (rT : RelT s9 s10) (k9 : keep9h s9' = keep9h s9) (k10 : keep10h s10' = keep10h s10) {A : Sh} (hok : okS A) (h6 : S6 (p9_now s9') A) (h10 : S10 s10' A) (rH : RelH s9' s10') (rR : Req (p9_refusals s9') (p10_refusals s10')) (rS : sbInv (p9_said s9')) (rB : RelB s9') : Rel s9' s10' := by
  simp only [keep9h, keep10h, Prod.mk.injEq] at k9 k10
  obtain ⟨a1, a2, a3, a4, a5⟩ := k9
  obtain ⟨b1, b2, b3, b4, b5, b6⟩ := k10
  refine ⟨A, hok, h6, h10, ?_, ?_, ?_, rH, rR, rS, rB⟩
  · unfold RelI
    rw [a1, a2, b1, b2]
    exact rI
  · unfold RelL
    rw [a3, b3, b4]
    exact rL
  · unfold RelT
    rw [a4, a5, b5, b6]
    exact rT
theorem RelH_mk {s9 s9' : T9} {s10 s10' : T10} (rH : RelH s9 s10) {f g : Nat → Int64} (e1 : p7_made (p9_shelves s9') = p7_made (p9_shelves s9)) (e2 : p7_sizes (p9_shelves s9') = p7_sizes (p9_shelves s9)) (e3 : p10_places s10' = p10_places s10) (e4 : p7_cells (p9_shelves s9') = f) (e5 : p10_cell s10' = g) (eq : ∀ j', j' < 4 → p7_made (p9_shelves s9) j' = 1 → ∀ n', p7_sizes (p9_shelves s9) j' = nI n' → n' ≤ 20 → ∀ i, i < n' → f (20 * j' + i) = g (20 * j' + i)) : RelH s9' s10' := by
  unfold RelH
  rw [e1, e2, e3, e4, e5]
  intro j' hj'
  rcases rH j' hj' with ⟨m1, m2⟩ | ⟨m1, m, hm, m2, m3, m4⟩
  · exact Or.inl ⟨m1, m2⟩
  · exact Or.inr ⟨m1, m, hm, m2, m3, fun i hi => eq j' hj' m1 m m2 hm i hi⟩
theorem RelH_eq {s9 : T9} {s10 : T10} (rH : RelH s9 s10) : ∀ j', j' < 4 → p7_made (p9_shelves s9) j' = 1 → ∀ n', p7_sizes (p9_shelves s9) j' = nI n' → n' ≤ 20 → ∀ i, i < n' → p7_cells (p9_shelves s9) (20 * j' + i) = p10_cell s10 (20 * j' + i) := by
  intro j' h1 h2 n' h3 h4 i h5
  rcases rH j' h1 with ⟨m1, _⟩ | ⟨m1, m, hm, m2, m3, m4⟩
  · rw [h2] at m1; exact absurd m1 (by decide)
  · have : m = n' := nI_inj (by omega) (by omega) (by rw [← m2, h3])
    exact m4 i (by omega)
theorem lays_out {s9 : T9} {s10 : T10} {A : Sh} (hok : okS A) (h6 : S6 (p9_now s9) A) (h10 : S10 s10 A) (rI : RelI s9 s10) (rL : RelL s9 s10) (rT : RelT s9 s10) (rH : RelH s9 s10) (rS : sbInv (p9_said s9)) {f g : Nat → Int64} (eq : ∀ j', j' < 4 → p7_made (p9_shelves s9) j' = 1 → ∀ n', p7_sizes (p9_shelves s9) j' = nI n' → n' ≤ 20 → ∀ i, i < n' → f (20 * j' + i) = g (20 * j' + i)) {fr gr : Nat → Int32} (rR : Req fr gr) {r : T16} {q : T5r} (z : r.2.2.2.2.2.2.2.2.2.2.2.2.2.1 0 = 0 ∧ r.2.2.2.2.2.2.2.2.2.2.2.2.2.2.1 0 = 0 ∧ r.2.2.2.2.2.2.2.2.2.2.2.2.2.2.2 0 = 0) (x y : Int32) : Rel (st_X9_lays s9 (x, f, fr, r)) (st_X10_lays s10 (y, g, gr, q)) := Rel_qH rI rL rT (by dsimp only [keep9h, st_X9_lays]) (by dsimp only [keep10h, st_X10_lays]) hok (by dsimp only [st_X9_lays]; exact h6) (S10_mk h10 (by dsimp only [c10, st_X10_lays])) (RelH_mk rH (f := f) (g := g) (by dsimp only [st_X9_lays]) (by dsimp only [st_X9_lays]) (by dsimp only [st_X10_lays]) (by dsimp only [st_X9_lays]) (by dsimp only [st_X10_lays]) eq) (by dsimp only [st_X9_lays, st_X10_lays]; exact rR) (by dsimp only [st_X9_lays]; exact rS) (by dsimp only [RelB, st_X9_lays]; exact z)
set_option maxHeartbeats 40000 in
theorem lays_b9 {s7 : T7} {A : Sh} (hok : okS A) {l j k : Nat} {s0 : T0} {r : T16} (r2 : V9 (stV s0 r) A (vU A l 0) (vD A l 0)) (p3 : Int32) (f : Nat → Int64) (y : k < 2 * hN A) : m_X7_layAll_l3 s7 (stV s0 r) (nI j) p3 (nI k) f = (m_X7_hasPlace (u7_cells f s7) (nI j) (p3 + nI k)).bind fun x8 => if x8 = 0 then some (.inr (.inl f)) else (m_X7_set (u7_cells f s7) (nI j) (p3 + nI k) (nI (vat (vU A l 0) (vD A l 0) k)).toInt64).bind fun x10 => some (.inl (nI (k + 1), x10)) := by
  have n7 := hok.1.1
  unfold m_X7_layAll_l3 m_X8_paperCount
  rw [Option.bind_some, r2.1.2.2.2, show (2 : Int32) = nI 2 from rfl, nI_mul, if_neg (nI_ge y (by omega)), show nI 2 = (2 : Int32) from rfl, vat8 hok r2 y, nI_1]
  simp only [Option.bind_some]
set_option maxHeartbeats 40000 in
theorem lays_b10 {s10 : T10} {A : Sh} (hok : okS A) (h10 : S10 s10 A) {l j n k : Nat} (hj : j < 4) (hn : n ≤ 20) (z2 : p10_places s10 j = nI n) {q : T5r} (q2 : V10 (stM s10 q) A (vU A l 0) (vD A l 0)) (p3 : Int32) (g : Nat → Int64) (y : k < 2 * hN A) : m_X10_lays_l51 s10 (nI j) p3 q (nI k) g = if p3 < 0 then some (.inr (.inl g)) else if p3.toInt64 + J k < J n then (if inb (nI (20 * j) + p3 + nI k) 80 = true then some (.inl (nI (k + 1), vp_updL g (nI (20 * j) + p3 + nI k).toNatClampNeg (nI (vat (vU A l 0) (vD A l 0) k)).toInt64)) else none) else some (.inr (.inl g)) := by
  have n7 := hok.1.1
  have ib : inb (nI j) 4 = true := inb_nI hj (by decide)
  have cl : (nI j).toNatClampNeg = j := nI_clamp (by omega)
  have e20 : (20 : Int32) * nI j = nI (20 * j) := by rw [show (20 : Int32) = nI 20 from rfl, nI_mul]
  have e2 : (2 : Int32) * nI (hN A) = nI (2 * hN A) := by rw [show (2 : Int32) = nI 2 from rfl, nI_mul]
  have w1 : Eqn q.2.2.2.1 (vU A l 0) (hN A) := q2.2.1
  have w2 : Eqn q.2.2.2.2 (vD A l 0) (hN A) := q2.2.2
  have v := vat10 (s := u10_valueDown q.2.2.2.2 (u10_valueUp q.2.2.2.1 (u10_beneath q.2.2.1 (u10_down q.2.1 (u10_up q.1 (u10_cell g s10)))))) hok w1 w2 y
  unfold m_X10_lays_l51
  rw [h10.1, e2, if_neg (nI_ge y (by omega)), if_pos ib, cl, z2, nI_64 (by omega), nI_64 (by omega), v, Option.bind_some, nI_1, e20]
set_option maxHeartbeats 40000 in
theorem lays_loop {s9 : T9} {s10 : T10} {A : Sh} (hok : okS A) (h10 : S10 s10 A) (rH : RelH s9 s10) {l j n : Nat} (hj : j < 4) (hn : n ≤ 20) (z1 : p7_sizes (p9_shelves s9) j = nI n) (z2 : p10_places s10 j = nI n) {s0 : T0} {r : T16} {q : T5r} (r2 : V9 (stV s0 r) A (vU A l 0) (vD A l 0)) (q2 : V10 (stM s10 q) A (vU A l 0) (vD A l 0)) (p3 : Int32) : ∃ a b, lp (fun z : Int32 × (Nat → Int64) => m_X7_layAll_l3 (p9_shelves s9) (stV s0 r) (nI j) p3 z.1 z.2) fu ((0 : Int32), p7_cells (p9_shelves s9)) = some a ∧ lp (fun z : Int32 × (Nat → Int64) => m_X10_lays_l51 s10 (nI j) p3 q z.1 z.2) fu ((0 : Int32), p10_cell s10) = some b ∧ ∃ f g, ((a = .inl f ∧ b = .inl g) ∨ (a = .inr f ∧ b = .inr g)) ∧ (∀ j', j' < 4 → p7_made (p9_shelves s9) j' = 1 → ∀ n', p7_sizes (p9_shelves s9) j' = nI n' → n' ≤ 20 → ∀ i, i < n' → f (20 * j' + i) = g (20 * j' + i)) := by
  have n7 := hok.1.1
  have ib : inb (nI j) 4 = true := inb_nI hj (by decide)
  have cl : (nI j).toNatClampNeg = j := nI_clamp (by omega)
  have same : ∀ (f : Nat → Int64) (g : Nat → Int64), (∀ j', j' < 4 → p7_made (p9_shelves s9) j' = 1 → ∀ n', p7_sizes (p9_shelves s9) j' = nI n' → n' ≤ 20 → ∀ i, i < n' → f (20 * j' + i) = g (20 * j' + i)) → ∀ (c : Nat) (x : Int64), (∀ j', j' < 4 → p7_made (p9_shelves s9) j' = 1 → ∀ n', p7_sizes (p9_shelves s9) j' = nI n' → n' ≤ 20 → ∀ i, i < n' → vp_updL f c x (20 * j' + i) = vp_updL g c x (20 * j' + i)) := by
    intro f g h c x j' h1 h2 n' h3 h4 i h5
    by_cases w : 20 * j' + i = c
    · rw [w, updL_at, updL_at]
    · rw [updL_ne w, updL_ne w]
      exact h j' h1 h2 n' h3 h4 i h5
  have sz : ∀ n n' : Nat, n ≤ 20 → n' ≤ 20 → nI n = nI n' → n = n' := fun n n' h1 h2 h => nI_inj (by omega) (by omega) h
  have e2 : (2 : Int32) * nI (hN A) = nI (2 * hN A) := by rw [show (2 : Int32) = nI 2 from rfl, nI_mul]
  have e20 : (20 : Int32) * nI j = nI (20 * j) := by rw [show (20 : Int32) = nI 20 from rfl, nI_mul]
  have e0 : ∀ x : Int32, x + nI 0 = x := by
    intro x
    rw [show nI 0 = (0 : Int32) from rfl, Int32.add_zero]
  exact lp_relf (f := fun z : Int32 × (Nat → Int64) => m_X7_layAll_l3 (p9_shelves s9) (stV s0 r) (nI j) p3 z.1 z.2) (g := fun z : Int32 × (Nat → Int64) => m_X10_lays_l51 s10 (nI j) p3 q z.1 z.2) (I := fun d s t => s.1 = t.1 ∧ ∃ k, k ≤ 2 * hN A ∧ d = 2 * hN A - k ∧ s.1 = nI k ∧ (k = 0 ∨ (0 ≤ p3.toInt ∧ p3.toInt + k ≤ n)) ∧ (∀ j', j' < 4 → p7_made (p9_shelves s9) j' = 1 → ∀ n', p7_sizes (p9_shelves s9) j' = nI n' → n' ≤ 20 → ∀ i, i < n' → s.2 (20 * j' + i) = t.2 (20 * j' + i))) (Q := fun a b => ∃ f g, ((a = .inl f ∧ b = .inl g) ∨ (a = .inr f ∧ b = .inr g)) ∧ (∀ j', j' < 4 → p7_made (p9_shelves s9) j' = 1 → ∀ n', p7_sizes (p9_shelves s9) j' = nI n' → n' ≤ 20 → ∀ i, i < n' → f (20 * j' + i) = g (20 * j' + i))) (d := 2 * hN A) (s := ((0 : Int32), p7_cells (p9_shelves s9))) (t := ((0 : Int32), p10_cell s10)) (by
    rintro d ⟨s, f⟩ ⟨t, g⟩ ⟨rfl, k, hk, hd, rfl, hp, eq⟩
    simp only at eq ⊢
    rcases Nat.lt_or_ge k (2 * hN A) with y | y
    · have b9 := lays_b9 (s7 := p9_shelves s9) (j := j) hok r2 p3 f y
      have b10 := lays_b10 hok h10 hj hn z2 q2 p3 g y
      rw [b9, b10]
      by_cases c : p3 < 0
      · have k0 : k = 0 := by
          rw [i_lt, z32] at c
          omega
        rw [if_pos c, k0, e0]
        have : m_X7_hasPlace (u7_cells f (p9_shelves s9)) (nI j) p3 = some 0 := by
          unfold m_X7_hasPlace
          rw [if_pos c]
        rw [this, Option.bind_some, if_pos rfl]
        exact Or.inr ⟨_, _, rfl, rfl, f, g, Or.inl ⟨rfl, rfl⟩, eq⟩
      · have c' := c
        rw [i_lt, z32] at c'
        have lt := p3.toInt_lt
        obtain ⟨i, hi, rfl⟩ : ∃ i : Nat, i < 2 ^ 31 ∧ p3 = nI i := ⟨p3.toInt.toNat, by omega, nI_ofInt (by omega)⟩
        rw [nI_toInt hi] at hp
        have ik : i + k < 2 ^ 31 := by omega
        rw [if_neg c, nI_add, hasPlace7 (s := u7_cells f (p9_shelves s9)) hj z1 (by omega) ik, Option.bind_some, nI_64 hi, J_add]
        have P : (J ((i : Int) + (k : Int)) < J (n : Int)) ↔ i + k < n := by
          rw [J_lt ⟨by omega, by omega⟩ ⟨by omega, by omega⟩]
          omega
        by_cases c2 : i + k < n
        · rw [if_pos (P.mpr c2), if_pos c2, if_neg (by decide), set7 (s := u7_cells f (p9_shelves s9)) (by omega), Option.bind_some, nI_add, nI_add, if_pos (inb_nI (by omega) (by decide)), nI_clamp (by omega), Nat.add_assoc]
          exact Or.inl ⟨2 * hN A - (k + 1), _, _, rfl, rfl, by omega, rfl, k + 1, by omega, rfl, rfl, Or.inr ⟨by rw [nI_toInt hi]; omega, by rw [nI_toInt hi]; omega⟩, same f g eq _ _⟩
        · rw [if_neg (fun x => c2 (P.mp x)), if_neg c2, if_pos rfl]
          exact Or.inr ⟨_, _, rfl, rfl, f, g, Or.inl ⟨rfl, rfl⟩, eq⟩
    · refine Or.inr ⟨.inr f, .inr g, ?_, ?_, f, g, Or.inr ⟨rfl, rfl⟩, eq⟩
      · unfold m_X7_layAll_l3 m_X8_paperCount
        rw [Option.bind_some, r2.1.2.2.2, e2, if_pos (nI_le y (by omega))]
      · unfold m_X10_lays_l51
        rw [h10.1, e2, if_pos (nI_le y (by omega))]) ⟨rfl, 0, Nat.zero_le _, rfl, rfl, Or.inl rfl, RelH_eq rH⟩ (by omega)
set_option maxHeartbeats 40000 in
theorem op_lays : OP_lays Rel := by
  intro s9 s10 p1 p2 p3 ⟨A, hok, h6, h10, rI, rL, rT, rH, rR, rS, rB⟩
  have n7 := hok.1.1
  have bad : ∀ (c : Int32) (k : Nat), k < 7 → -c = nI k → ¬ -1 < c → ¬ c < -6 → m_X9_lays s9 p1 p2 p3 = (m_X9_counted s9 c).bind (fun x6 => some (x6.1, p7_cells (p9_shelves s9), x6.2, cur0 (p9_byRules s9))) → m_X10_lays s10 p1 p2 p3 = (m_X10_no s10 c).bind (fun x8 => some (x8.1, p10_cell s10, x8.2, cur10 s10)) → ∃ u v, m_X9_lays s9 p1 p2 p3 = some u ∧ m_X10_lays s10 p1 p2 p3 = some v ∧ u.1 = v.1 ∧ Rel (st_X9_lays s9 u) (st_X10_lays s10 v) := by
    intro c k hk hc c1 c2 e9 e10
    rw [counted_neg s9 c1 c2 hk hc, Option.bind_some] at e9
    rw [no10 s10 hk hc, Option.bind_some] at e10
    exact ⟨_, _, e9, e10, rfl, lays_out hok h6 h10 rI rL rT rH rS (RelH_eq rH) (Req_cnt rR hk) (r := cur0 (p9_byRules s9)) rB _ _⟩
  rcases shelf_why rH p1 p2 with ⟨l, j, n, hl, hj, hn, rfl, rfl, w9, w1, w2, z1, z2, z3⟩ | ⟨w9, w1⟩ | ⟨w9, w1, w2⟩ | ⟨j, hj, rfl, w9, w1, w2, z2⟩
  · obtain ⟨r, r1, r2, r3⟩ := rules9 h6 hok rB hl
    obtain ⟨q, q1, q2⟩ := rules10 h10 hok hl
    have ib : inb (nI j) 4 = true := inb_nI hj (by decide)
    have cl : (nI j).toNatClampNeg = j := nI_clamp (by omega)
    obtain ⟨a, b, a1, b1, ab⟩ := lays_loop hok h10 rH hj hn z1 z2 r2 q2 p3
    obtain ⟨f, g, fg, eq⟩ := ab
    have fin : ∀ x : Int32, m_X9_lays s9 (nI l) (nI j) p3 = some (x, f, p9_refusals s9, r) → m_X10_lays s10 (nI l) (nI j) p3 = some (x, g, p10_refusals s10, q) → ∃ u v, m_X9_lays s9 (nI l) (nI j) p3 = some u ∧ m_X10_lays s10 (nI l) (nI j) p3 = some v ∧ u.1 = v.1 ∧ Rel (st_X9_lays s9 u) (st_X10_lays s10 v) := by
      exact fun x a b => ⟨_, _, a, b, rfl, lays_out hok h6 h10 rI rL rT rH rS eq rR r3 _ _⟩
    have pc : m_X8_paperCount (stV (p9_byRules s9) r) = some (nI (hN A)) := by
      unfold m_X8_paperCount
      rw [r2.1.2.2.2]
    rcases fg with ⟨rfl, rfl⟩ | ⟨rfl, rfl⟩
    · refine fin (-13) ?_ ?_
      · unfold m_X9_lays m_X7_layAll
        rw [w9, Option.bind_some, if_pos rfl, r1, Option.bind_some, a1, Option.bind_some]
        rfl
      · unfold m_X10_lays
        rw [w1, Option.bind_some, if_neg (by decide), w2, Option.bind_some, if_neg (by decide), if_pos ib, cl, z2, if_pos (nI_pos' (by omega)), all10 h10 hok, Option.bind_some, q1, Option.bind_some, b1, Option.bind_some]
    · refine fin (nI (hN A)) ?_ ?_
      · unfold m_X9_lays m_X7_layAll
        rw [w9, Option.bind_some, if_pos rfl, r1, Option.bind_some, a1, Option.bind_some]
        simp only [pc, Option.bind_some]
      · unfold m_X10_lays
        rw [w1, Option.bind_some, if_neg (by decide), w2, Option.bind_some, if_neg (by decide), if_pos ib, cl, z2, if_pos (nI_pos' (by omega)), all10 h10 hok, Option.bind_some, q1, Option.bind_some, b1, Option.bind_some, h10.1]
  · refine bad (-2) 2 (by decide) (by decide) (by decide) (by decide) ?_ ?_
    · unfold m_X9_lays
      rw [w9, Option.bind_some, if_neg (by decide)]
      rfl
    · unfold m_X10_lays
      rw [w1, Option.bind_some, if_pos rfl]
      rfl
  · refine bad (-1) 1 (by decide) (by decide) (by decide) (by decide) ?_ ?_
    · unfold m_X9_lays
      rw [w9, Option.bind_some, if_neg (by decide)]
      rfl
    · unfold m_X10_lays
      rw [w1, Option.bind_some, if_neg (by decide), w2, Option.bind_some, if_pos rfl]
      rfl
  · have ib : inb (nI j) 4 = true := inb_nI hj (by decide)
    have cl : (nI j).toNatClampNeg = j := nI_clamp (by omega)
    refine ⟨(-11, p7_cells (p9_shelves s9), p9_refusals s9, cur0 (p9_byRules s9)), (-11, p10_cell s10, p10_refusals s10, cur10 s10), ?_, ?_, rfl, lays_out hok h6 h10 rI rL rT rH rS (RelH_eq rH) rR (r := cur0 (p9_byRules s9)) rB _ _⟩
    · unfold m_X9_lays
      rw [w9, Option.bind_some, if_neg (by decide), counted_11, Option.bind_some]
      rfl
    · unfold m_X10_lays
      rw [w1, Option.bind_some, if_neg (by decide), w2, Option.bind_some, if_neg (by decide), if_pos ib, cl, z2, if_neg (by decide)]
      rfl
