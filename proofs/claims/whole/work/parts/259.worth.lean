/-! worth, dearest -/
theorem fsub {q0 q1 : Rat} {K0 K1 : Nat} (h0 : BD K0 (250632 * 7) q0) (h1 : BD K1 (250632 * 7) q1) (k0 : 0 < K0) (k1 : 0 < K1) (b0 : K0 ≤ 279936) (b1 : K1 ≤ 279936) : rng q1.den ∧ rng q0.den ∧ rng (q0.num * ((q1.den : Int) / (Nat.gcd q0.den q1.den : Nat)) + (-q1.num) * ((q0.den : Int) / (Nat.gcd q0.den q1.den : Nat))) ∧ rng ((q0.den / Nat.gcd q0.den q1.den * q1.den : Nat) : Int) := by
  obtain ⟨a1, a2, a3⟩ := h0
  obtain ⟨c1, c2, c3⟩ := h1
  have d0 := Nat.le_of_dvd k0 a1
  have d1 := Nat.le_of_dvd k1 c1
  obtain ⟨N, hN⟩ : ∃ N : Nat, q0.num = (N : Int) := ⟨q0.num.toNat, by omega⟩
  obtain ⟨M, hM⟩ : ∃ M : Nat, q1.num = (M : Int) := ⟨q1.num.toNat, by omega⟩
  have e1 : (q1.den : Int) / (Nat.gcd q0.den q1.den : Nat) = ((q1.den / Nat.gcd q0.den q1.den : Nat) : Int) := (Int.natCast_ediv _ _).symm
  have e2 : (q0.den : Int) / (Nat.gcd q0.den q1.den : Nat) = ((q0.den / Nat.gcd q0.den q1.den : Nat) : Int) := (Int.natCast_ediv _ _).symm
  rw [hN] at a3
  rw [hM] at c3
  have N3 : N ≤ 250632 * 7 * 279936 := by
    have : N ≤ 250632 * 7 * q0.den := by omega
    have := Nat.mul_le_mul_left (250632 * 7) (show q0.den ≤ 279936 by omega)
    omega
  have M3 : M ≤ 250632 * 7 * 279936 := by
    have : M ≤ 250632 * 7 * q1.den := by omega
    have := Nat.mul_le_mul_left (250632 * 7) (show q1.den ≤ 279936 by omega)
    omega
  have g1 := Nat.div_le_self q1.den (Nat.gcd q0.den q1.den)
  have g0 := Nat.div_le_self q0.den (Nat.gcd q0.den q1.den)
  have p1 := Nat.mul_le_mul N3 (show q1.den / Nat.gcd q0.den q1.den ≤ 279936 by omega)
  have p2 := Nat.mul_le_mul M3 (show q0.den / Nat.gcd q0.den q1.den ≤ 279936 by omega)
  have p3 := Nat.mul_le_mul (show q0.den / Nat.gcd q0.den q1.den ≤ 279936 by omega) (show q1.den ≤ 279936 by omega)
  rw [hN, hM, e1, e2, ← Int.natCast_mul, Int.neg_mul, ← Int.natCast_mul]
  exact ⟨rng_nat (by omega), rng_nat (by omega), ⟨by omega, by omega⟩, rng_nat (by omega)⟩
theorem V9_stB {s0 : T0} {r r' : T16} {A : Sh} {u d : Nat → Nat} (h : V9 (stV (stB s0 r) r') A u d) : V9 (stV s0 r') A u d := by
  rw [stV_fl] at h
  rw [stV_fl]
  exact h
theorem op_worth : OP_worth Rel := by
  intro s9 s10 p1 p2 p3 ⟨A, hok, h6, h10, rI, rL, rT, rH, rR, rS, rB⟩
  have n12 := hok.2.1.1
  have bad : ∀ (c : Int32) (k : Nat), k < 7 → -c = nI k → m_X9_worth s9 p1 p2 p3 = (m_X9useLong s9 c).bind (fun x6 => some (x6.1, x6.2, snoc (cur0 (p9_byRules s9)) (p1_above (p9_fraction s9)) (p1_below (p9_fraction s9)))) → m_X10_worth s10 p1 p2 p3 = (m_X10_far s10 c).bind (fun x8 => some (x8.1, x8.2, cur10 s10)) → ∃ u v, m_X9_worth s9 p1 p2 p3 = some u ∧ m_X10_worth s10 p1 p2 p3 = some v ∧ u.1 = v.1 ∧ Rel (st_X9_worth s9 u) (st_X10_worth s10 v) := by
    intro c k hk hc e9 e10
    rw [far9 s9 hk hc, Option.bind_some] at e9
    rw [far10 s10 hk hc, Option.bind_some] at e10
    exact ⟨_, _, e9, e10, rfl, Rel_q rI rL rT rH (by dsimp only [keep9q, st_X9_worth]) (by dsimp only [keep10, st_X10_worth]) hok (by dsimp only [st_X9_worth]; exact h6) (S10_mk h10 (by dsimp only [c10, st_X10_worth])) (by dsimp only [st_X9_worth, st_X10_worth]; exact Req_cnt rR hk) (by dsimp only [st_X9_worth]; exact rS) (by dsimp only [RelB, st_X9_worth, snoc, cur0]; exact rB)⟩
  rcases loss_cases p1 with ⟨l, hl, rfl, w9, w10⟩ | ⟨w9, w10⟩
  · rcases rule_cases h6 h10 hok p2 with ⟨p, hp, rfl, v9, v10⟩ | ⟨v9, v10⟩
    · rcases part_cases p3 with ⟨pc, e9, e10⟩ | ⟨e9, e10⟩
      · have rl := rules_lt hok
        have pw : 2 ^ p < 2 ^ 12 := Nat.pow_lt_pow_right (by decide) (by omega)
        obtain ⟨b1, b2⟩ := there_bits hok (2 ^ p)
        obtain ⟨K0, k0, k1, k2⟩ := chQ_BD hok 0 hl
        obtain ⟨K1, j0, j1, j2⟩ := chQ_BD hok (2 ^ p) hl
        obtain ⟨g1, g2, g3, g4⟩ := fsub k2 j2 k0 j0 k1 j1
        obtain ⟨r, r1, r2, r3⟩ := values9 (p9_byRules s9) h6 hok rB hl (W := 2 ^ p) pw
        obtain ⟨r', r1', r2', r3'⟩ := values9 (stB (p9_byRules s9) r) h6 hok r3 hl (W := 0) (by decide)
        have r2'' := V9_stB r2'
        have r1'' : m_X0_work (stB (p9_byRules s9) r) (p9_now s9) (nI l) 0 = some r' := r1'
        obtain ⟨q, q1⟩ := changes10 h10 hok hl (T := dif (2 ^ hU A - 1) (2 ^ p)) (W := 2 ^ p) b1 b2
        have hs : S10 (stM s10 (J (chQ A l (2 ^ p)).num, J ((chQ A l (2 ^ p)).den : Int), q)) A := S10_stM h10 _
        obtain ⟨q', q1'⟩ := changes10 hs hok hl (T := 2 ^ hU A - 1) (W := 0) (by omega) (fun r hr => by rw [all_bit hr, Nat.zero_testBit]; rfl)
        have al := all10 hs hok
        have ad9 : ∀ s1 : T1, m_X1_add (u1_below (J ((chQ A l 0).den : Int)) (u1_above (J (chQ A l 0).num) s1)) (J (-(chQ A l (2 ^ p)).num)) (J ((chQ A l (2 ^ p)).den : Int)) = _ := fun s1 => add9 (s := u1_below (J ((chQ A l 0).den : Int)) (u1_above (J (chQ A l 0).num) s1)) (q := chQ A l 0) rfl rfl (chQ A l (2 ^ p)).den_pos g1 g2 g3 g4
        have ad10 : m_X10_add (stM s10 (J (chQ A l 0).num, J ((chQ A l 0).den : Int), q')) (J (-(chQ A l (2 ^ p)).num)) (J ((chQ A l (2 ^ p)).den : Int)) = _ := add10 (s := stM s10 (J (chQ A l 0).num, J ((chQ A l 0).den : Int), q')) (q := chQ A l 0) rfl rfl (chQ A l (2 ^ p)).den_pos g1 g2 g3 g4
        generalize hQ : chQ A l 0 + mkRat (-(chQ A l (2 ^ p)).num) (chQ A l (2 ^ p)).den = Q at *
        refine ⟨(if p3 = 0 then J Q.num else J (Q.den : Int), p9_refusals s9, snoc r' (J Q.num) (J (Q.den : Int))), (if p3 = 0 then J Q.num else J (Q.den : Int), p10_refusals s10, J Q.num, J (Q.den : Int), q'), ?_, ?_, rfl, Rel_q rI rL rT rH (by dsimp only [keep9q, st_X9_worth]) (by dsimp only [keep10, st_X10_worth]) hok (by dsimp only [st_X9_worth]; exact h6) (S10_mk h10 (by dsimp only [c10, st_X10_worth])) (by dsimp only [st_X9_worth, st_X10_worth]; exact rR) (by dsimp only [st_X9_worth]; exact rS) (by dsimp only [RelB, st_X9_worth, snoc]; exact r3')⟩
        · unfold m_X9_worth
          rw [w9, Option.bind_some, if_neg (by decide), v9, Option.bind_some, if_neg (by decide), e9, Option.bind_some, if_neg (by decide), nI_shl1 _ (by omega), r1, Option.bind_some, changes9 hok hl r2, Option.bind_some, fpart9, Option.bind_some, if_pos rfl, fpart9, Option.bind_some, if_neg (by decide), r1'', Option.bind_some, changes9 hok hl r2'', Option.bind_some, J_neg, ad9, Option.bind_some, fpart9, Option.bind_some]
          rfl
        · unfold m_X10_worth
          have fp := fpart10 s10 (J Q.num, J (Q.den : Int), q') p3
          rw [w10, Option.bind_some, if_neg (by decide), v10, Option.bind_some, if_neg (by decide), isPart10, e10, Option.bind_some, if_neg (by decide), all10 h10 hok, Option.bind_some, nI_shl1 _ (by omega), nI_dif, q1, Option.bind_some, al, Option.bind_some, q1', Option.bind_some, J_neg, ad10, Option.bind_some, fp, Option.bind_some]
      · refine bad (-2) 2 (by decide) (by decide) ?_ ?_
        · unfold m_X9_worth
          rw [w9, Option.bind_some, if_neg (by decide), v9, Option.bind_some, if_neg (by decide), e9, Option.bind_some, if_pos rfl]
          rfl
        · unfold m_X10_worth
          rw [w10, Option.bind_some, if_neg (by decide), v10, Option.bind_some, if_neg (by decide), isPart10, e10, Option.bind_some, if_pos rfl]
          rfl
    · refine bad (-1) 1 (by decide) (by decide) ?_ ?_
      · unfold m_X9_worth
        rw [w9, Option.bind_some, if_neg (by decide), v9, Option.bind_some, if_pos rfl]
        rfl
      · unfold m_X10_worth
        rw [w10, Option.bind_some, if_neg (by decide), v10, Option.bind_some, if_pos rfl]
        rfl
  · refine bad (-2) 2 (by decide) (by decide) ?_ ?_
    · unfold m_X9_worth
      rw [w9, Option.bind_some, if_pos rfl]
      rfl
    · unfold m_X10_worth
      rw [w10, Option.bind_some, if_pos rfl]
      rfl
theorem dearL {s9 : T9} {s10 : T10} {A : Sh} (hok : okS A) (h6 : S6 (p9_now s9) A) (h10 : S10 s10 A) {l : Nat} (hl : l < 3) (a0 b0 : Int64) (r0 : T16) (z0 : zero3 r0) (fa0 fb0 : Int64) (x0 : T5r) : ∃ (best : Int32) (r : T16) (fa fb : Int64) (x : T5r), lp (fun z : Int64 × Int64 × Int32 × Int32 × (Nat → Int32) × (Nat → Int32) × (Nat → Int32) × (Nat → Int32) × (Nat → Int32) × Int64 × Int64 × Int32 × (Nat → Int32) × (Nat → Int32) × (Nat → Int32) × (Nat → Int32) × Int32 × (Nat → Int32) × (Nat → Int32) × (Nat → Int32) × Int64 × Int64 => m_X9_dearest_l61 s9 (nI l) z.1 z.2.1 z.2.2.1 z.2.2.2.1 z.2.2.2.2.1 z.2.2.2.2.2.1 z.2.2.2.2.2.2.1 z.2.2.2.2.2.2.2.1 z.2.2.2.2.2.2.2.2.1 z.2.2.2.2.2.2.2.2.2.1 z.2.2.2.2.2.2.2.2.2.2.1 z.2.2.2.2.2.2.2.2.2.2.2.1 z.2.2.2.2.2.2.2.2.2.2.2.2.1 z.2.2.2.2.2.2.2.2.2.2.2.2.2.1 z.2.2.2.2.2.2.2.2.2.2.2.2.2.2.1 z.2.2.2.2.2.2.2.2.2.2.2.2.2.2.2.1 z.2.2.2.2.2.2.2.2.2.2.2.2.2.2.2.2.1 z.2.2.2.2.2.2.2.2.2.2.2.2.2.2.2.2.2.1 z.2.2.2.2.2.2.2.2.2.2.2.2.2.2.2.2.2.2.1 z.2.2.2.2.2.2.2.2.2.2.2.2.2.2.2.2.2.2.2.1 z.2.2.2.2.2.2.2.2.2.2.2.2.2.2.2.2.2.2.2.2.1 z.2.2.2.2.2.2.2.2.2.2.2.2.2.2.2.2.2.2.2.2.2) fu (a0, b0, (-9 : Int32), (0 : Int32), r0.1, r0.2.1, r0.2.2.1, r0.2.2.2.1, r0.2.2.2.2.1, r0.2.2.2.2.2.1, r0.2.2.2.2.2.2.1, r0.2.2.2.2.2.2.2.1, r0.2.2.2.2.2.2.2.2.1, r0.2.2.2.2.2.2.2.2.2.1, r0.2.2.2.2.2.2.2.2.2.2.1, r0.2.2.2.2.2.2.2.2.2.2.2.1, r0.2.2.2.2.2.2.2.2.2.2.2.2.1, r0.2.2.2.2.2.2.2.2.2.2.2.2.2.1, r0.2.2.2.2.2.2.2.2.2.2.2.2.2.2.1, r0.2.2.2.2.2.2.2.2.2.2.2.2.2.2.2, fa0, fb0) = some (best, r.1, r.2.1, r.2.2.1, r.2.2.2.1, r.2.2.2.2.1, r.2.2.2.2.2.1, r.2.2.2.2.2.2.1, r.2.2.2.2.2.2.2.1, r.2.2.2.2.2.2.2.2.1, r.2.2.2.2.2.2.2.2.2.1, r.2.2.2.2.2.2.2.2.2.2.1, r.2.2.2.2.2.2.2.2.2.2.2.1, r.2.2.2.2.2.2.2.2.2.2.2.2.1, r.2.2.2.2.2.2.2.2.2.2.2.2.2.1, r.2.2.2.2.2.2.2.2.2.2.2.2.2.2.1, r.2.2.2.2.2.2.2.2.2.2.2.2.2.2.2, fa, fb) ∧ lp (fun z : Int64 × Int64 × Int32 × Int32 × Int64 × Int64 × (Nat → Int32) × (Nat → Int32) × (Nat → Int32) => m_X10_dearest_l41 s10 (nI l) z.1 z.2.1 z.2.2.1 z.2.2.2.1 z.2.2.2.2.1 z.2.2.2.2.2.1 z.2.2.2.2.2.2.1 z.2.2.2.2.2.2.2.1 z.2.2.2.2.2.2.2.2) fu (a0, b0, (-9 : Int32), (0 : Int32), x0) = some (best, x) ∧ zero3 r := by
  have n12 := hok.2.1.1
  obtain ⟨s, t, e1, e2, best, r, fa, fb, x, rfl, rfl, z3⟩ := lp_relf (f := fun z : Int64 × Int64 × Int32 × Int32 × (Nat → Int32) × (Nat → Int32) × (Nat → Int32) × (Nat → Int32) × (Nat → Int32) × Int64 × Int64 × Int32 × (Nat → Int32) × (Nat → Int32) × (Nat → Int32) × (Nat → Int32) × Int32 × (Nat → Int32) × (Nat → Int32) × (Nat → Int32) × Int64 × Int64 => m_X9_dearest_l61 s9 (nI l) z.1 z.2.1 z.2.2.1 z.2.2.2.1 z.2.2.2.2.1 z.2.2.2.2.2.1 z.2.2.2.2.2.2.1 z.2.2.2.2.2.2.2.1 z.2.2.2.2.2.2.2.2.1 z.2.2.2.2.2.2.2.2.2.1 z.2.2.2.2.2.2.2.2.2.2.1 z.2.2.2.2.2.2.2.2.2.2.2.1 z.2.2.2.2.2.2.2.2.2.2.2.2.1 z.2.2.2.2.2.2.2.2.2.2.2.2.2.1 z.2.2.2.2.2.2.2.2.2.2.2.2.2.2.1 z.2.2.2.2.2.2.2.2.2.2.2.2.2.2.2.1 z.2.2.2.2.2.2.2.2.2.2.2.2.2.2.2.2.1 z.2.2.2.2.2.2.2.2.2.2.2.2.2.2.2.2.2.1 z.2.2.2.2.2.2.2.2.2.2.2.2.2.2.2.2.2.2.1 z.2.2.2.2.2.2.2.2.2.2.2.2.2.2.2.2.2.2.2.1 z.2.2.2.2.2.2.2.2.2.2.2.2.2.2.2.2.2.2.2.2.1 z.2.2.2.2.2.2.2.2.2.2.2.2.2.2.2.2.2.2.2.2.2) (g := fun z : Int64 × Int64 × Int32 × Int32 × Int64 × Int64 × (Nat → Int32) × (Nat → Int32) × (Nat → Int32) => m_X10_dearest_l41 s10 (nI l) z.1 z.2.1 z.2.2.1 z.2.2.2.1 z.2.2.2.2.1 z.2.2.2.2.2.1 z.2.2.2.2.2.2.1 z.2.2.2.2.2.2.2.1 z.2.2.2.2.2.2.2.2) (I := fun d s t => ∃ k a b best r fa fb x, k ≤ hU A ∧ d = hU A - k ∧ s = (a, b, best, nI k, (r : T16).1, (r : T16).2.1, (r : T16).2.2.1, (r : T16).2.2.2.1, (r : T16).2.2.2.2.1, (r : T16).2.2.2.2.2.1, (r : T16).2.2.2.2.2.2.1, (r : T16).2.2.2.2.2.2.2.1, (r : T16).2.2.2.2.2.2.2.2.1, (r : T16).2.2.2.2.2.2.2.2.2.1, (r : T16).2.2.2.2.2.2.2.2.2.2.1, (r : T16).2.2.2.2.2.2.2.2.2.2.2.1, (r : T16).2.2.2.2.2.2.2.2.2.2.2.2.1, (r : T16).2.2.2.2.2.2.2.2.2.2.2.2.2.1, (r : T16).2.2.2.2.2.2.2.2.2.2.2.2.2.2.1, (r : T16).2.2.2.2.2.2.2.2.2.2.2.2.2.2.2, fa, fb) ∧ t = (a, b, best, nI k, (x : T5r)) ∧ zero3 r) (Q := fun s t => ∃ best r fa fb x, s = (best, (r : T16).1, (r : T16).2.1, (r : T16).2.2.1, (r : T16).2.2.2.1, (r : T16).2.2.2.2.1, (r : T16).2.2.2.2.2.1, (r : T16).2.2.2.2.2.2.1, (r : T16).2.2.2.2.2.2.2.1, (r : T16).2.2.2.2.2.2.2.2.1, (r : T16).2.2.2.2.2.2.2.2.2.1, (r : T16).2.2.2.2.2.2.2.2.2.2.1, (r : T16).2.2.2.2.2.2.2.2.2.2.2.1, (r : T16).2.2.2.2.2.2.2.2.2.2.2.2.1, (r : T16).2.2.2.2.2.2.2.2.2.2.2.2.2.1, (r : T16).2.2.2.2.2.2.2.2.2.2.2.2.2.2.1, (r : T16).2.2.2.2.2.2.2.2.2.2.2.2.2.2.2, fa, fb) ∧ t = (best, (x : T5r)) ∧ zero3 r) (d := hU A) (s := (a0, b0, (-9 : Int32), (0 : Int32), r0.1, r0.2.1, r0.2.2.1, r0.2.2.2.1, r0.2.2.2.2.1, r0.2.2.2.2.2.1, r0.2.2.2.2.2.2.1, r0.2.2.2.2.2.2.2.1, r0.2.2.2.2.2.2.2.2.1, r0.2.2.2.2.2.2.2.2.2.1, r0.2.2.2.2.2.2.2.2.2.2.1, r0.2.2.2.2.2.2.2.2.2.2.2.1, r0.2.2.2.2.2.2.2.2.2.2.2.2.1, r0.2.2.2.2.2.2.2.2.2.2.2.2.2.1, r0.2.2.2.2.2.2.2.2.2.2.2.2.2.2.1, r0.2.2.2.2.2.2.2.2.2.2.2.2.2.2.2, fa0, fb0)) (t := (a0, b0, (-9 : Int32), (0 : Int32), x0)) (by
    rintro d s t ⟨k, a, b, best, r, fa, fb, x, hk, hd, rfl, rfl, z3⟩
    rcases Nat.lt_or_ge k (hU A) with w | w
    · have pw : 2 ^ k < 2 ^ 12 := Nat.pow_lt_pow_right (by decide) (by omega)
      obtain ⟨b1, b2⟩ := there_bits hok (2 ^ k)
      obtain ⟨r', r1, r2, r3⟩ := stepB h6 hok z3 (W := 2 ^ k) hl pw
      have hs : S10 (stM s10 x) A := S10_stM h10 x
      obtain ⟨q, q1⟩ := changes10 hs hok hl (T := dif (2 ^ hU A - 1) (2 ^ k)) (W := 2 ^ k) b1 b2
      have al := all10 hs hok
      have bl : ∀ s1 : T1, m_X1_isBelow (u1_below (J ((chQ A l (2 ^ k)).den : Int)) (u1_above (J (chQ A l (2 ^ k)).num) s1)) a b = (if a * J ((chQ A l (2 ^ k)).den : Int) ≤ J (chQ A l (2 ^ k)).num * b then some 0 else some 1) := fun s1 => rfl
      have g9 : m_X9_dearest_l61 s9 (nI l) a b best (nI k) r.1 r.2.1 r.2.2.1 r.2.2.2.1 r.2.2.2.2.1 r.2.2.2.2.2.1 r.2.2.2.2.2.2.1 r.2.2.2.2.2.2.2.1 r.2.2.2.2.2.2.2.2.1 r.2.2.2.2.2.2.2.2.2.1 r.2.2.2.2.2.2.2.2.2.2.1 r.2.2.2.2.2.2.2.2.2.2.2.1 r.2.2.2.2.2.2.2.2.2.2.2.2.1 r.2.2.2.2.2.2.2.2.2.2.2.2.2.1 r.2.2.2.2.2.2.2.2.2.2.2.2.2.2.1 r.2.2.2.2.2.2.2.2.2.2.2.2.2.2.2 fa fb = if a * J ((chQ A l (2 ^ k)).den : Int) ≤ J (chQ A l (2 ^ k)).num * b then some (.inl (a, b, best, nI (k + 1), r'.1, r'.2.1, r'.2.2.1, r'.2.2.2.1, r'.2.2.2.2.1, r'.2.2.2.2.2.1, r'.2.2.2.2.2.2.1, r'.2.2.2.2.2.2.2.1, r'.2.2.2.2.2.2.2.2.1, r'.2.2.2.2.2.2.2.2.2.1, r'.2.2.2.2.2.2.2.2.2.2.1, r'.2.2.2.2.2.2.2.2.2.2.2.1, r'.2.2.2.2.2.2.2.2.2.2.2.2.1, r'.2.2.2.2.2.2.2.2.2.2.2.2.2.1, r'.2.2.2.2.2.2.2.2.2.2.2.2.2.2.1, r'.2.2.2.2.2.2.2.2.2.2.2.2.2.2.2, J (chQ A l (2 ^ k)).num, J ((chQ A l (2 ^ k)).den : Int))) else some (.inl (J (chQ A l (2 ^ k)).num, J ((chQ A l (2 ^ k)).den : Int), nI k, nI (k + 1), r'.1, r'.2.1, r'.2.2.1, r'.2.2.2.1, r'.2.2.2.2.1, r'.2.2.2.2.2.1, r'.2.2.2.2.2.2.1, r'.2.2.2.2.2.2.2.1, r'.2.2.2.2.2.2.2.2.1, r'.2.2.2.2.2.2.2.2.2.1, r'.2.2.2.2.2.2.2.2.2.2.1, r'.2.2.2.2.2.2.2.2.2.2.2.1, r'.2.2.2.2.2.2.2.2.2.2.2.2.1, r'.2.2.2.2.2.2.2.2.2.2.2.2.2.1, r'.2.2.2.2.2.2.2.2.2.2.2.2.2.2.1, r'.2.2.2.2.2.2.2.2.2.2.2.2.2.2.2, J (chQ A l (2 ^ k)).num, J ((chQ A l (2 ^ k)).den : Int))) := by
        unfold m_X9_dearest_l61 m_X6_ruleCount
        rw [Option.bind_some, h6.2.2.1.1, if_neg (nI_ge w (by omega)), nI_shl1 _ (by omega), r1, Option.bind_some, changes9 hok hl r2, Option.bind_some, bl, nI_1]
        by_cases c : a * J ((chQ A l (2 ^ k)).den : Int) ≤ J (chQ A l (2 ^ k)).num * b
        · rw [if_pos c, if_pos c, Option.bind_some, if_pos rfl]
        · rw [if_neg c, if_neg c, Option.bind_some, if_neg (by decide), fpart9, Option.bind_some, if_pos rfl, fpart9, Option.bind_some, if_neg (by decide)]
      have g10 : m_X10_dearest_l41 s10 (nI l) a b best (nI k) x.1 x.2.1 x.2.2.1 x.2.2.2.1 x.2.2.2.2 = if a * J ((chQ A l (2 ^ k)).den : Int) ≤ J (chQ A l (2 ^ k)).num * b then some (.inl (a, b, best, nI (k + 1), J (chQ A l (2 ^ k)).num, J ((chQ A l (2 ^ k)).den : Int), q)) else some (.inl (J (chQ A l (2 ^ k)).num, J ((chQ A l (2 ^ k)).den : Int), nI k, nI (k + 1), J (chQ A l (2 ^ k)).num, J ((chQ A l (2 ^ k)).den : Int), q)) := by
        unfold m_X10_dearest_l41
        rw [h10.2.2.1.1, if_neg (nI_ge w (by omega)), al, Option.bind_some, nI_shl1 _ (by omega), nI_dif, q1, Option.bind_some, nI_1]
      refine Or.inl ?_
      by_cases c : a * J ((chQ A l (2 ^ k)).den : Int) ≤ J (chQ A l (2 ^ k)).num * b
      · rw [if_pos c] at g9 g10
        exact ⟨hU A - (k + 1), _, _, g9, g10, by omega, k + 1, a, b, best, r', _, _, (J (chQ A l (2 ^ k)).num, J ((chQ A l (2 ^ k)).den : Int), q), by omega, rfl, rfl, rfl, r3⟩
      · rw [if_neg c] at g9 g10
        exact ⟨hU A - (k + 1), _, _, g9, g10, by omega, k + 1, _, _, nI k, r', _, _, (J (chQ A l (2 ^ k)).num, J ((chQ A l (2 ^ k)).den : Int), q), by omega, rfl, rfl, rfl, r3⟩
    · refine Or.inr ⟨(best, r.1, r.2.1, r.2.2.1, r.2.2.2.1, r.2.2.2.2.1, r.2.2.2.2.2.1, r.2.2.2.2.2.2.1, r.2.2.2.2.2.2.2.1, r.2.2.2.2.2.2.2.2.1, r.2.2.2.2.2.2.2.2.2.1, r.2.2.2.2.2.2.2.2.2.2.1, r.2.2.2.2.2.2.2.2.2.2.2.1, r.2.2.2.2.2.2.2.2.2.2.2.2.1, r.2.2.2.2.2.2.2.2.2.2.2.2.2.1, r.2.2.2.2.2.2.2.2.2.2.2.2.2.2.1, r.2.2.2.2.2.2.2.2.2.2.2.2.2.2.2, fa, fb), (best, x), ?_, ?_, best, r, fa, fb, x, rfl, rfl, z3⟩
      · show m_X9_dearest_l61 s9 (nI l) a b best (nI k) r.1 r.2.1 r.2.2.1 r.2.2.2.1 r.2.2.2.2.1 r.2.2.2.2.2.1 r.2.2.2.2.2.2.1 r.2.2.2.2.2.2.2.1 r.2.2.2.2.2.2.2.2.1 r.2.2.2.2.2.2.2.2.2.1 r.2.2.2.2.2.2.2.2.2.2.1 r.2.2.2.2.2.2.2.2.2.2.2.1 r.2.2.2.2.2.2.2.2.2.2.2.2.1 r.2.2.2.2.2.2.2.2.2.2.2.2.2.1 r.2.2.2.2.2.2.2.2.2.2.2.2.2.2.1 r.2.2.2.2.2.2.2.2.2.2.2.2.2.2.2 fa fb = _
        unfold m_X9_dearest_l61 m_X6_ruleCount
        rw [Option.bind_some, h6.2.2.1.1, if_pos (nI_le w (by omega))]
      · show m_X10_dearest_l41 s10 (nI l) a b best (nI k) x.1 x.2.1 x.2.2.1 x.2.2.2.1 x.2.2.2.2 = _
        unfold m_X10_dearest_l41
        rw [h10.2.2.1.1, if_pos (nI_le w (by omega))]) ⟨0, a0, b0, -9, r0, fa0, fb0, x0, Nat.zero_le _, rfl, rfl, rfl, z0⟩ (by omega)
  exact ⟨best, r, fa, fb, x, e1, e2, z3⟩
theorem op_dearest : OP_dearest Rel := by
  intro s9 s10 p1 ⟨A, hok, h6, h10, rI, rL, rT, rH, rR, rS, rB⟩
  rcases loss_cases p1 with ⟨l, hl, rfl, w9, w10⟩ | ⟨w9, w10⟩
  · have rl := rules_lt hok
    obtain ⟨r, r1, r2, r3⟩ := rules9 h6 hok rB hl
    obtain ⟨q, q1⟩ := changes10 h10 hok hl (T := 2 ^ hU A - 1) (W := 0) (by omega) (fun r hr => by rw [all_bit hr, Nat.zero_testBit]; rfl)
    obtain ⟨best, r', fa, fb, x, l9, l10, z3⟩ := dearL hok h6 h10 hl (J (chQ A l 0).num) (J ((chQ A l 0).den : Int)) r r3 (J (chQ A l 0).num) (J ((chQ A l 0).den : Int)) (J (chQ A l 0).num, J ((chQ A l 0).den : Int), q)
    refine ⟨(best, p9_refusals s9, snoc r' fa fb), (best, p10_refusals s10, x), ?_, ?_, rfl, Rel_q rI rL rT rH (by dsimp only [keep9q, st_X9_dearest]) (by dsimp only [keep10, st_X10_dearest]) hok (by dsimp only [st_X9_dearest]; exact h6) (S10_mk h10 (by dsimp only [c10, st_X10_dearest])) (by dsimp only [st_X9_dearest, st_X10_dearest]; exact rR) (by dsimp only [st_X9_dearest]; exact rS) (by dsimp only [RelB, st_X9_dearest, snoc]; exact z3)⟩
    · unfold m_X9_dearest
      rw [w9, Option.bind_some, if_neg (by decide), r1, Option.bind_some, changes9 hok hl r2, Option.bind_some, fpart9, Option.bind_some, if_pos rfl, fpart9, Option.bind_some, if_neg (by decide), l9, Option.bind_some]
      rfl
    · unfold m_X10_dearest
      rw [w10, Option.bind_some, if_neg (by decide), all10 h10 hok, Option.bind_some, q1, Option.bind_some, l10, Option.bind_some]
  · refine ⟨(-2, cnt (p9_refusals s9) 2, snoc (cur0 (p9_byRules s9)) (p1_above (p9_fraction s9)) (p1_below (p9_fraction s9))), (-2, cnt (p10_refusals s10) 2, cur10 s10), ?_, ?_, rfl, Rel_q rI rL rT rH (by dsimp only [keep9q, st_X9_dearest]) (by dsimp only [keep10, st_X10_dearest]) hok (by dsimp only [st_X9_dearest]; exact h6) (S10_mk h10 (by dsimp only [c10, st_X10_dearest])) (by dsimp only [st_X9_dearest, st_X10_dearest]; exact Req_cnt rR (by decide)) (by dsimp only [st_X9_dearest]; exact rS) (by dsimp only [RelB, st_X9_dearest, snoc, cur0]; exact rB)⟩
    · unfold m_X9_dearest
      rw [w9, Option.bind_some, if_pos rfl, use9 (k := 2) _ (by decide) (by decide), Option.bind_some]
      rfl
    · unfold m_X10_dearest
      rw [w10, Option.bind_some, if_pos rfl, no10 (k := 2) _ (by decide) (by decide), Option.bind_some]
      rfl
