/-! likely: the call -/
theorem fpart9 (s : T1) (a b : Int64) (x : Int32) : m_X1_partOf (u1_below b (u1_above a s)) x = some (if x = 0 then a else b) := by
  unfold m_X1_partOf
  by_cases c : x = 0
  · rw [if_pos c, if_pos c]
  · rw [if_neg c, if_neg c]
theorem fpart10 (s : T10) (q : T5r) (x : Int32) : m_X10_part (stM s q) x = some (if x = 0 then q.1 else q.2.1) := by
  unfold m_X10_part
  by_cases c : x = 0
  · rw [if_pos c, if_pos c]
  · rw [if_neg c, if_neg c]
theorem least5 {u : Nat} (h : u ≤ 12) : (if nI u < 5 then nI u else 5) = nI (Nat.min u 5) := by
  have : ∀ u, u < 13 → (if nI u < 5 then nI u else 5) = nI (Nat.min u 5) := by decide +kernel
  exact this u (by omega)
theorem op_likely : OP_likely Rel := by
  intro s9 s10 p1 p2 p3 p4 ⟨A, hok, h6, h10, rI, rL, rT, rH, rR, rS, rB⟩
  have n12 := hok.2.1.1
  have bad : ∀ (c : Int32) (k : Nat), k < 7 → -c = nI k → m_X9_likely s9 p1 p2 p3 p4 = (m_X9useLong s9 c).bind (fun x6 => some (x6.1, x6.2, snoc (cur0 (p9_byRules s9)) (p1_above (p9_fraction s9)) (p1_below (p9_fraction s9)))) → m_X10_likely s10 p1 p2 p3 p4 = (m_X10_far s10 c).bind (fun x8 => some (x8.1, x8.2, cur10 s10)) → ∃ u v, m_X9_likely s9 p1 p2 p3 p4 = some u ∧ m_X10_likely s10 p1 p2 p3 p4 = some v ∧ u.1 = v.1 ∧ Rel (st_X9_likely s9 u) (st_X10_likely s10 v) := by
    intro c k hk hc e9 e10
    rw [far9 s9 hk hc, Option.bind_some] at e9
    rw [far10 s10 hk hc, Option.bind_some] at e10
    exact ⟨_, _, e9, e10, rfl, Rel_q rI rL rT rH (by dsimp only [keep9q, st_X9_likely]) (by dsimp only [keep10, st_X10_likely]) hok (by dsimp only [st_X9_likely]; exact h6) (S10_mk h10 (by dsimp only [c10, st_X10_likely])) (by dsimp only [st_X9_likely, st_X10_likely]; exact Req_cnt rR hk) (by dsimp only [st_X9_likely]; exact rS) (by dsimp only [RelB, st_X9_likely, snoc, cur0]; exact rB)⟩
  rcases why_cases (s9 := s9) h6 h10 hok p1 p2 with ⟨l, p, hl, hp, rfl, rfl, w9, w1, w2⟩ | ⟨w9, w1⟩ | ⟨w9, w1, w2⟩
  · by_cases c1 : 2 ≤ p3
    · by_cases c2 : p3 ≤ 20
      · have c1' := c1
        rw [i_le, show (2 : Int32).toInt = 2 from rfl] at c1'
        have c2' := c2
        rw [i_le, show (20 : Int32).toInt = 20 from rfl] at c2'
        obtain ⟨t, ht, rfl⟩ := num_of (x := p3) (m := 20) (by omega) (by omega)
        rw [nI_toInt (by omega)] at c1'
        rcases part_cases p4 with ⟨pc, e9, e10⟩ | ⟨e9, e10⟩
        · have hm : Nat.min (hU A) 5 ≤ 5 := Nat.min_le_right _ _
          obtain ⟨r, r1, r2⟩ := hits9 h6 hok rB hl hp (t := t) (m := Nat.min (hU A) 5) (by omega) ht hm
          obtain ⟨q, q1⟩ := hits10 h10 hok hl hp (t := t) (m := Nat.min (hU A) 5) (by omega) ht hm (cur10 s10)
          have hh := hit_le (A := A) (l := l) (p := p) (t := t) (m := Nat.min (hU A) 5) (by omega) ht hm (2 ^ Nat.min (hU A) 5)
          have b1 : 20 ^ Nat.min (hU A) 5 ≤ 20 ^ 5 := Nat.pow_le_pow_right (by decide) hm
          have b2 : 2 ^ Nat.min (hU A) 5 ≤ 2 ^ 5 := Nat.pow_le_pow_right (by decide) hm
          have b3 := Nat.mul_le_mul b1 b2
          have b4 : t ^ Nat.min (hU A) 5 ≤ 20 ^ Nat.min (hU A) 5 := Nat.pow_le_pow_left ht _
          have b5 : 0 < t ^ Nat.min (hU A) 5 := Nat.pow_pos (by omega)
          have ra : rng ((hit A l p t (Nat.min (hU A) 5) (2 ^ Nat.min (hU A) 5) : Nat) : Int) := rng_nat (by omega)
          have rb : rng ((t ^ Nat.min (hU A) 5 : Nat) : Int) := rng_nat (by omega)
          refine ⟨(if p4 = 0 then J (mkRat (hit A l p t (Nat.min (hU A) 5) (2 ^ Nat.min (hU A) 5) : Int) (t ^ Nat.min (hU A) 5)).num else J ((mkRat (hit A l p t (Nat.min (hU A) 5) (2 ^ Nat.min (hU A) 5) : Int) (t ^ Nat.min (hU A) 5)).den : Int), p9_refusals s9, snoc r (J (mkRat (hit A l p t (Nat.min (hU A) 5) (2 ^ Nat.min (hU A) 5) : Int) (t ^ Nat.min (hU A) 5)).num) (J ((mkRat (hit A l p t (Nat.min (hU A) 5) (2 ^ Nat.min (hU A) 5) : Int) (t ^ Nat.min (hU A) 5)).den : Int))), (if p4 = 0 then J (mkRat (hit A l p t (Nat.min (hU A) 5) (2 ^ Nat.min (hU A) 5) : Int) (t ^ Nat.min (hU A) 5)).num else J ((mkRat (hit A l p t (Nat.min (hU A) 5) (2 ^ Nat.min (hU A) 5) : Int) (t ^ Nat.min (hU A) 5)).den : Int), p10_refusals s10, J (mkRat (hit A l p t (Nat.min (hU A) 5) (2 ^ Nat.min (hU A) 5) : Int) (t ^ Nat.min (hU A) 5)).num, J ((mkRat (hit A l p t (Nat.min (hU A) 5) (2 ^ Nat.min (hU A) 5) : Int) (t ^ Nat.min (hU A) 5)).den : Int), q.2.2), ?_, ?_, rfl, Rel_q rI rL rT rH (by dsimp only [keep9q, st_X9_likely]) (by dsimp only [keep10, st_X10_likely]) hok (by dsimp only [st_X9_likely]; exact h6) (S10_mk h10 (by dsimp only [c10, st_X10_likely])) (by dsimp only [st_X9_likely, st_X10_likely]; exact rR) (by dsimp only [st_X9_likely]; exact rS) (by dsimp only [RelB, st_X9_likely, snoc]; exact r2)⟩
          · unfold m_X9_likely m_X9_workLikely m_X6_ruleCount
            rw [w9, Option.bind_some, if_pos rfl, if_pos c1, Option.bind_some, if_pos rfl, if_pos c2, Option.bind_some, if_pos rfl, e9, Option.bind_some, if_neg (by decide), Option.bind_some, if_pos rfl, Option.bind_some, h6.2.2.1.1, least5 n12, Option.bind_some, all9 ht hm, Option.bind_some]
            have r1' := r1
            unfold cur0 at r1'
            rw [r1', Option.bind_some, make9 _ ra b5 rb, Option.bind_some, Option.bind_some, fpart9, Option.bind_some]
            rfl
          · unfold m_X10_likely
            rw [w1, Option.bind_some, if_neg (by decide), w2, Option.bind_some, if_neg (by decide), if_pos c1, if_pos c2, isPart10, e10, Option.bind_some, if_neg (by decide), h10.2.2.1.1, least5 n12, Option.bind_some, allw10 ht hm, Option.bind_some]
            have q1' := q1
            unfold cur10 at q1'
            rw [q1', Option.bind_some, fraction10 _ ra b5 rb, Option.bind_some]
            have fp := fpart10 s10 (J (mkRat (hit A l p t (Nat.min (hU A) 5) (2 ^ Nat.min (hU A) 5) : Int) (t ^ Nat.min (hU A) 5)).num, J ((mkRat (hit A l p t (Nat.min (hU A) 5) (2 ^ Nat.min (hU A) 5) : Int) (t ^ Nat.min (hU A) 5)).den : Int), q.2.2) p4
            rw [fp, Option.bind_some]
        · refine bad (-2) 2 (by decide) (by decide) ?_ ?_
          · unfold m_X9_likely
            rw [w9, Option.bind_some, if_pos rfl, if_pos c1, Option.bind_some, if_pos rfl, if_pos c2, Option.bind_some, if_pos rfl, e9, Option.bind_some, if_pos rfl, Option.bind_some, if_neg (by decide)]
            rfl
          · unfold m_X10_likely
            rw [w1, Option.bind_some, if_neg (by decide), w2, Option.bind_some, if_neg (by decide), if_pos c1, if_pos c2, isPart10, e10, Option.bind_some, if_pos rfl]
            rfl
      · refine bad (-6) 6 (by decide) (by decide) ?_ ?_
        · unfold m_X9_likely
          rw [w9, Option.bind_some, if_pos rfl, if_pos c1, Option.bind_some, if_pos rfl, if_neg c2, Option.bind_some, if_neg (by decide), Option.bind_some, if_neg (by decide)]
          rfl
        · unfold m_X10_likely
          rw [w1, Option.bind_some, if_neg (by decide), w2, Option.bind_some, if_neg (by decide), if_pos c1, if_neg c2]
          rfl
    · refine bad (-4) 4 (by decide) (by decide) ?_ ?_
      · unfold m_X9_likely
        rw [w9, Option.bind_some, if_pos rfl, if_neg c1, Option.bind_some, if_neg (by decide), Option.bind_some, if_neg (by decide), Option.bind_some, if_neg (by decide)]
        rfl
      · unfold m_X10_likely
        rw [w1, Option.bind_some, if_neg (by decide), w2, Option.bind_some, if_neg (by decide), if_neg c1]
        rfl
  · refine bad (-2) 2 (by decide) (by decide) ?_ ?_
    · unfold m_X9_likely
      rw [w9, Option.bind_some, if_neg (by decide), Option.bind_some, if_neg (by decide), Option.bind_some, if_neg (by decide), Option.bind_some, if_neg (by decide)]
      rfl
    · unfold m_X10_likely
      rw [w1, Option.bind_some, if_pos rfl]
      rfl
  · refine bad (-1) 1 (by decide) (by decide) ?_ ?_
    · unfold m_X9_likely
      rw [w9, Option.bind_some, if_neg (by decide), Option.bind_some, if_neg (by decide), Option.bind_some, if_neg (by decide), Option.bind_some, if_neg (by decide)]
      rfl
    · unfold m_X10_likely
      rw [w1, Option.bind_some, if_neg (by decide), w2, Option.bind_some, if_pos rfl]
      rfl
