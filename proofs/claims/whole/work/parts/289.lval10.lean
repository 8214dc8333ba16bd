/-! THE LINE's values: the reference; the calls line, merges -/
theorem mk_bd (a : Int) {b : Nat} (hb : 0 < b) : (mkRat a b).num.natAbs ≤ a.natAbs ∧ (mkRat a b).den ≤ b := by
  obtain ⟨e1, e2⟩ := mkRat_parts (x := a) hb
  rw [e1, e2]
  exact ⟨Int.natAbs_ediv_le_natAbs _ _, Nat.div_le_self _ _⟩
theorem rng_abs {i : Int} (h : i.natAbs < 4611686018427387904) : rng i := ⟨by omega, by omega⟩
theorem add_rng {q : Rat} {x : Int} {d N D X E : Nat} (h1 : q.num.natAbs ≤ N) (h2 : q.den ≤ D) (h3 : x.natAbs ≤ X) (h4 : d ≤ E) (hb : N * E + X * D < 4611686018427387904) (hb2 : D * E < 4611686018427387904) (hD : 0 < D) (hE : 0 < E) : rng d ∧ rng q.den ∧ rng (q.num * ((d : Int) / (Nat.gcd q.den d : Nat)) + x * ((q.den : Int) / (Nat.gcd q.den d : Nat))) ∧ rng ((q.den / Nat.gcd q.den d * d : Nat) : Int) := by
  have e1 : E ≤ D * E := Nat.le_mul_of_pos_left E hD
  have e2 : D ≤ D * E := Nat.le_mul_of_pos_right D hE
  have l1 : d / Nat.gcd q.den d ≤ E := Nat.le_trans (Nat.div_le_self _ _) h4
  have l2 : q.den / Nat.gcd q.den d ≤ D := Nat.le_trans (Nat.div_le_self _ _) h2
  have m1 := Nat.mul_le_mul h1 l1
  have m2 := Nat.mul_le_mul h3 l2
  have m3 := Nat.mul_le_mul l2 h4
  refine ⟨rng_nat (by omega), rng_nat (by omega), rng_abs ?_, rng_nat (by omega)⟩
  rw [← Int.natCast_ediv, ← Int.natCast_ediv]
  refine Nat.lt_of_le_of_lt (Int.natAbs_add_le _ _) ?_
  rw [Int.natAbs_mul, Int.natAbs_mul, Int.natAbs_natCast, Int.natAbs_natCast]
  omega
theorem neg_64 {k : Nat} (h : k < 2 ^ 31) : (-(nI k)).toInt64 = J (-(k : Int)) := by
  rw [← zI_nat]
  unfold zI
  rw [Int32.neg_ofInt]
  exact zI_64 (by omega) (by omega)
theorem lvQ_bd {A : Sh} (hok : okS A) (l : Nat) {p : Nat} (hp : p < hN A) : (lvQ A l p).num.natAbs ≤ 3746736 ∧ (lvQ A l p).den ≤ 15876 := by
  obtain ⟨a1, a2, a3, a4⟩ := lv_in hok l hp
  obtain ⟨b1, b2⟩ := mk_bd (lvN A l p) a1
  unfold lvQ
  exact ⟨by omega, by omega⟩
theorem blockOf10 {s : T10} {A : Sh} {l p : Nat} (hok : okS A) (e1 : Eqn (p10_block s) (lnK A l).2.1 (lnK A l).1) (hp : p < hN A) : m_X10_blockOf s (nI p) = some (nI (blk A l p)) := by
  have n7 := hok.1.1
  have p7 := pow_le7 n7
  obtain ⟨i1, i2⟩ := ixK_in hok l hp
  have ab := BKS_all (lnK_ok hok l).1
  have c7 := ab.1
  have key : lp (fun z : Int32 => m_X10_blockOf_l2 s (nI p) z) fu (0 : Int32) = some (nI (ixK A l p)) := by
    refine lp_for (fun k => nI k) (ixK A l p) (fun k hk => ?_) ?_ (by omega) rfl
    · have := (ab.2 k (by omega)).2
      show m_X10_blockOf_l2 s (nI p) (nI k) = _
      unfold m_X10_blockOf_l2
      rw [if_pos (inb_nI (by omega) (by decide)), nI_clamp (by omega), e1 k (by omega), has10 (by omega) (by omega), if_neg (fun h => by have := (i2 k (by omega)).mp h; omega), Option.bind_some, if_pos rfl, nI_1]
    · have := (ab.2 _ i1).2
      show m_X10_blockOf_l2 s (nI p) (nI (ixK A l p)) = _
      unfold m_X10_blockOf_l2
      rw [if_pos (inb_nI (by omega) (by decide)), nI_clamp (by omega), e1 _ i1, has10 (by omega) (by omega), if_pos ((i2 _ i1).mpr rfl), Option.bind_some, if_neg (by decide)]
  unfold m_X10_blockOf
  rw [key, Option.bind_some, if_pos (inb_nI (by omega) (by decide)), nI_clamp (by omega), e1 _ i1]
  rfl
theorem lv_sum {U D pU pD m : Nat} (hD : 0 < D) (hp : 0 < pD) : mkRat (U : Int) D + mkRat (-(pU : Int)) pD + mkRat (m : Int) 1 = mkRat ((((m * D + U) * pD : Nat) : Int) - ((pU * D : Nat) : Int)) (D * pD) := by
  have h := Nat.mul_pos hD hp
  rw [Rat.mkRat_add_mkRat _ _ (by omega) (by omega), Rat.mkRat_add_mkRat _ _ (by omega) (by omega), Nat.mul_one]
  congr 1
  simp only [Int.natCast_mul, Int.natCast_add, Int.neg_mul, Int.mul_one, Int.add_mul, Int.natCast_one]
  rw [Int.mul_assoc]
  omega
theorem lineValue10 {s : T10} {A : Sh} {l p : Nat} (h : S10 s A) (hok : okS A) (hl : l < 2) (e1 : Eqn (p10_block s) (lnK A l).2.1 (lnK A l).1) (hp : p < hN A) : ∃ a b, m_X10_lineValue s (nI l) (nI p) = some (J (lvQ A l p).num, J ((lvQ A l p).den : Int), a, b) := by
  have n7 := hok.1.1
  have t2 := hok.2.2.2
  obtain ⟨b1, b2, b3⟩ := blk_in hok l hp
  obtain ⟨a1, a2, a3⟩ := nu_in hok l b2 b1
  obtain ⟨p1, p2⟩ := plc_in hp
  obtain ⟨c1, c2, c3⟩ := nu_in hok l p2 p1
  have m := mkA_le hok hp
  have hb := hP_le hok hp
  have fr := fraction10 (u10_numberDown (nI (nuD A l (blk A l p))) (u10_numberUp (nI (nuU A l (blk A l p))) s)) (x := (nuU A l (blk A l p) : Int)) (d := nuD A l (blk A l p)) (rng_nat (by omega)) a1 (rng_nat (by omega))
  obtain ⟨k1, k2⟩ := mk_bd (nuU A l (blk A l p) : Int) a1
  by_cases t : hT A = 2
  · obtain ⟨r1, r2, r3, r4⟩ := add_rng (q := mkRat (nuU A l (blk A l p) : Int) (nuD A l (blk A l p))) (x := -(nuU A l (plc A p) : Int)) (d := nuD A l (plc A p)) (N := 14868) (D := 126) (X := 14868) (E := 126) (by omega) (by omega) (by omega) (by omega) (by decide) (by decide) (by decide) (by decide)
    have ad := add10 (s := u10_numberDown (nI (nuD A l (plc A p))) (u10_numberUp (nI (nuU A l (plc A p))) (u10_down (J ((mkRat (nuU A l (blk A l p) : Int) (nuD A l (blk A l p))).den : Int)) (u10_up (J (mkRat (nuU A l (blk A l p) : Int) (nuD A l (blk A l p))).num) s)))) (q := mkRat (nuU A l (blk A l p) : Int) (nuD A l (blk A l p))) rfl rfl c1 r1 r2 r3 r4
    have e : mkRat (nuU A l (blk A l p) : Int) (nuD A l (blk A l p)) + mkRat (-(nuU A l (plc A p) : Int)) (nuD A l (plc A p)) = mkRat ((nuU A l (blk A l p) : Int) * (nuD A l (plc A p) : Int) + -(nuU A l (plc A p) : Int) * (nuD A l (blk A l p) : Int)) (nuD A l (blk A l p) * nuD A l (plc A p)) := Rat.mkRat_add_mkRat _ _ (by omega) (by omega)
    have d0 : 0 < nuD A l (blk A l p) * nuD A l (plc A p) := Nat.mul_pos a1 c1
    have d1 : nuD A l (blk A l p) * nuD A l (plc A p) ≤ 126 * 126 := Nat.mul_le_mul a2 c2
    have d2 : nuU A l (blk A l p) * nuD A l (plc A p) ≤ 14868 * 126 := Nat.mul_le_mul (by omega) c2
    have d3 : nuU A l (plc A p) * nuD A l (blk A l p) ≤ 14868 * 126 := Nat.mul_le_mul (by omega) a2
    obtain ⟨j1, j2⟩ := mk_bd ((nuU A l (blk A l p) : Int) * (nuD A l (plc A p) : Int) + -(nuU A l (plc A p) : Int) * (nuD A l (blk A l p) : Int)) d0
    rw [← e] at j1 j2
    have j3 : ((nuU A l (blk A l p) : Int) * (nuD A l (plc A p) : Int) + -(nuU A l (plc A p) : Int) * (nuD A l (blk A l p) : Int)).natAbs ≤ 3746736 := by
      rw [Int.neg_mul, ← Int.natCast_mul, ← Int.natCast_mul]
      omega
    obtain ⟨w1, w2, w3, w4⟩ := add_rng (q := mkRat (nuU A l (blk A l p) : Int) (nuD A l (blk A l p)) + mkRat (-(nuU A l (plc A p) : Int)) (nuD A l (plc A p))) (x := (mkA A p : Int)) (d := 1) (N := 3746736) (D := 15876) (X := 118) (E := 1) (by omega) (by omega) (by omega) (by omega) (by decide) (by decide) (by decide) (by decide)
    have ad2 := add10 (s := u10_numberDown (nI (nuD A l (plc A p))) (u10_numberUp (nI (nuU A l (plc A p))) (u10_down (J ((mkRat (nuU A l (blk A l p) : Int) (nuD A l (blk A l p)) + mkRat (-(nuU A l (plc A p) : Int)) (nuD A l (plc A p))).den : Int)) (u10_up (J (mkRat (nuU A l (blk A l p) : Int) (nuD A l (blk A l p)) + mkRat (-(nuU A l (plc A p) : Int)) (nuD A l (plc A p))).num) s)))) (q := mkRat (nuU A l (blk A l p) : Int) (nuD A l (blk A l p)) + mkRat (-(nuU A l (plc A p) : Int)) (nuD A l (plc A p))) (x := (mkA A p : Int)) (d := 1) rfl rfl (by decide) w1 w2 w3 w4
    have fin : lvQ A l p = mkRat (nuU A l (blk A l p) : Int) (nuD A l (blk A l p)) + mkRat (-(nuU A l (plc A p) : Int)) (nuD A l (plc A p)) + mkRat (mkA A p : Int) 1 := by
      rw [lv_sum a1 c1]
      unfold lvQ lvN lvD
      rw [if_pos t, if_pos t]
      rfl
    rw [fin]
    refine ⟨nI (nuU A l (plc A p)), nI (nuD A l (plc A p)), ?_⟩
    unfold m_X10_lineValue
    rw [blockOf10 hok e1 hp, Option.bind_some, number10 h hok hl b2 b1, Option.bind_some]
    simp only
    rw [nI_64 (k := nuU A l (blk A l p)) (by omega), nI_64 (k := nuD A l (blk A l p)) (by omega), fr, Option.bind_some, h.2.2.2.2, if_pos (by rw [t]; rfl), if_pos (inb_nI (by omega) (by decide)), nI_clamp (by omega), h.2.1.2.2.2.2 p hp, ofPlace10 (S10_mk h (by dsimp only [c10])) hok (by omega), Option.bind_some]
    have nn := number10 (s := u10_numberDown (nI (nuD A l (blk A l p))) (u10_numberUp (nI (nuU A l (blk A l p))) (u10_down (J ((mkRat (nuU A l (blk A l p) : Int) (nuD A l (blk A l p))).den : Int)) (u10_up (J (mkRat (nuU A l (blk A l p) : Int) (nuD A l (blk A l p))).num) s)))) (S10_mk h (by dsimp only [c10])) hok hl p2 p1
    have nn' : m_X10_number (u10_numberDown (nI (nuD A l (blk A l p))) (u10_numberUp (nI (nuU A l (blk A l p))) (u10_down (J ((mkRat (nuU A l (blk A l p) : Int) (nuD A l (blk A l p))).den : Int)) (u10_up (J (mkRat (nuU A l (blk A l p) : Int) (nuD A l (blk A l p))).num) s)))) (nI l) (nI (ofPl A (hP A p))) = _ := nn
    rw [nn', Option.bind_some]
    simp only
    rw [neg_64 (by omega), nI_64 (k := nuD A l (plc A p)) (by omega), ad, Option.bind_some, mark10 (S10_mk h (by dsimp only [c10])) hok hp, Option.bind_some, nI_64 (k := mkA A p) (by omega)]
    have ad3 : m_X10_add (u10_numberDown (nI (nuD A l (plc A p))) (u10_numberUp (nI (nuU A l (plc A p))) (u10_down (J ((mkRat (nuU A l (blk A l p) : Int) (nuD A l (blk A l p)) + mkRat (-(nuU A l (plc A p) : Int)) (nuD A l (plc A p))).den : Int)) (u10_up (J (mkRat (nuU A l (blk A l p) : Int) (nuD A l (blk A l p)) + mkRat (-(nuU A l (plc A p) : Int)) (nuD A l (plc A p))).num) s)))) (J (mkA A p : Int)) 1 = _ := ad2
    rw [ad3, Option.bind_some]
  · have fin : lvQ A l p = mkRat (nuU A l (blk A l p) : Int) (nuD A l (blk A l p)) := by
      unfold lvQ lvN lvD
      rw [if_neg t, if_neg t]
    rw [fin]
    refine ⟨nI (nuU A l (blk A l p)), nI (nuD A l (blk A l p)), ?_⟩
    unfold m_X10_lineValue
    rw [blockOf10 hok e1 hp, Option.bind_some, number10 h hok hl b2 b1, Option.bind_some]
    simp only
    rw [nI_64 (k := nuU A l (blk A l p)) (by omega), nI_64 (k := nuD A l (blk A l p)) (by omega), fr, Option.bind_some, h.2.2.2.2, if_neg (nI_two (by omega) t)]
theorem line_cases (x : Int32) : (∃ l, l < 2 ∧ x = nI l ∧ m_X9_isLineLoss x = some 1 ∧ m_X10_isLine x = some 1) ∨ (m_X9_isLineLoss x = some 0 ∧ m_X10_isLine x = some 0) := by
  have e9 : m_X9_isLineLoss x = m_X9_isPart x := rfl
  have e10 : m_X10_isLine x = m_X10_in x 0 1 := by
    rw [← isPart10]
    rfl
  rw [e9, e10]
  rcases part_cases x with ⟨c | c, h1, h2⟩ | ⟨h1, h2⟩
  · exact Or.inl ⟨0, by decide, c, h1, h2⟩
  · exact Or.inl ⟨1, by decide, c, h1, h2⟩
  · exact Or.inr ⟨h1, h2⟩
theorem partL {s : T8} {A : Sh} {l p : Nat} (hok : okS A) (h : VL s A l) (hp : p < hN A) (x : Int32) : m_X8_partOf s (nI p) x = if x = 0 then some (J (lvQ A l p).num) else some (J ((lvQ A l p).den : Int)) := by
  have n7 := hok.1.1
  obtain ⟨b1, b2⟩ := lvQ_bd hok l hp
  obtain ⟨v1, v2⟩ := h.2 p hp
  unfold m_X8_partOf
  rw [get_in (by omega) (by decide), Option.bind_some, get_in (by omega) (by decide), Option.bind_some, v1, v2, zI_64 (by omega) (by omega), nI_64 (by omega)]
def cur4 (s : T4) : T14 := (p8_marks (p4_values s), p8_weights (p4_values s), p8_places (p4_values s), p8_aboves (p4_values s), p8_belows (p4_values s), p1_above (p8_reduced (p4_values s)), p1_below (p8_reduced (p4_values s)), p8_papers (p4_values s), p4_blocks s, p4_tops s, p4_bottoms s, p4_blocksNow s, p4_mergesDone s, p4_loss s)
abbrev T7r : Type := Int64 × Int64 × Int32 × Int32 × (Nat → Int32) × Int32 × Int32
def curL10 (s : T10) : T7r := (p10_up s, p10_down s, p10_numberUp s, p10_numberDown s, p10_block s, p10_blocks s, p10_merged s)
abbrev T5m : Type := Int32 × Int32 × (Nat → Int32) × Int32 × Int32
def curM10 (s : T10) : T5m := (p10_numberUp s, p10_numberDown s, p10_block s, p10_blocks s, p10_merged s)
theorem op_line : OP_line Rel := by
  intro s9 s10 p1 p2 p3 ⟨A, hok, h6, h10, rI, rL, rT, rH, rR, rS, rB⟩
  have n7 := hok.1.1
  have bad : ∀ (c : Int32) (k : Nat), k < 7 → -c = nI k → m_X9_line s9 p1 p2 p3 = (m_X9useLong s9 c).bind (fun x6 => some (x6.1, x6.2, cur4 (p9_standing s9))) → m_X10_line s10 p1 p2 p3 = (m_X10_far s10 c).bind (fun x8 => some (x8.1, x8.2, curL10 s10)) → ∃ u v, m_X9_line s9 p1 p2 p3 = some u ∧ m_X10_line s10 p1 p2 p3 = some v ∧ u.1 = v.1 ∧ Rel (st_X9_line s9 u) (st_X10_line s10 v) := by
    intro c k hk hc e9 e10
    rw [useLong9 s9 hk hc, Option.bind_some] at e9
    rw [far10 s10 hk hc, Option.bind_some] at e10
    exact ⟨_, _, e9, e10, rfl, A, hok, h6, h10, rI, rL, rT, rH, Req_cnt rR hk, rS, rB⟩
  rcases line_cases p1 with ⟨l, hl, rfl, l9, l10⟩ | ⟨l9, l10⟩
  · rcases paper_cases h6 h10 hok p2 with ⟨p, hp, rfl, w9, w10⟩ | ⟨w9, w10⟩
    · rcases part_cases p3 with ⟨pc, e9, e10⟩ | ⟨e9, e10⟩
      · obtain ⟨r, r1, r2, r3, r4, r5⟩ := work4 (p9_standing s9) h6 hok hl
        obtain ⟨f, a, b, f1, f2⟩ := lines10 h10 hok hl
        obtain ⟨a', b', v1⟩ := lineValue10 (s := q10 s10 f (nI (lnK A l).1) (nI (begC A - (lnK A l).1)) a b) (S10_q h10 _ _ _ _ _) hok hl f2 hp
        refine ⟨(if p3 = 0 then J (lvQ A l p).num else J ((lvQ A l p).den : Int), p9_refusals s9, r), (if p3 = 0 then J (lvQ A l p).num else J ((lvQ A l p).den : Int), p10_refusals s10, J (lvQ A l p).num, J ((lvQ A l p).den : Int), a', b', f, nI (lnK A l).1, nI (begC A - (lnK A l).1)), ?_, ?_, rfl, Rel_q rI rL rT rH (by dsimp only [keep9q, st_X9_line]) (by dsimp only [keep10, st_X10_line]) hok (by dsimp only [st_X9_line]; exact h6) (S10_mk h10 (by dsimp only [c10, st_X10_line])) (by dsimp only [st_X9_line, st_X10_line]; exact rR) (by dsimp only [st_X9_line]; exact rS) (by dsimp only [RelB, st_X9_line]; exact rB)⟩
        · unfold m_X9_line m_X9_whyNoLineValue
          rw [l9, Option.bind_some, if_neg (by decide), w9, Option.bind_some, if_neg (by decide), e9, Option.bind_some, if_neg (by decide), Option.bind_some, if_pos rfl, r1, Option.bind_some, partL hok r2 hp]
          by_cases c : p3 = 0
          · rw [if_pos c, if_pos c]; rfl
          · rw [if_neg c, if_neg c]; rfl
        · unfold m_X10_line
          rw [l10, Option.bind_some, if_neg (by decide), w10, Option.bind_some, if_neg (by decide), isPart10, e10, Option.bind_some, if_neg (by decide), f1, Option.bind_some]
          have v1' : m_X10_lineValue (u10_merged (nI (begC A - (lnK A l).1)) (u10_blocks (nI (lnK A l).1) (u10_block f (u10_numberDown b (u10_numberUp a s10))))) (nI l) (nI p) = _ := v1
          rw [v1', Option.bind_some]
          unfold m_X10_part
          by_cases c : p3 = 0
          · rw [if_pos c, if_pos c]; rfl
          · rw [if_neg c, if_neg c]; rfl
      · refine bad (-2) 2 (by decide) (by decide) ?_ ?_
        · unfold m_X9_line m_X9_whyNoLineValue
          rw [l9, Option.bind_some, if_neg (by decide), w9, Option.bind_some, if_neg (by decide), e9, Option.bind_some, if_pos rfl, Option.bind_some, if_neg (by decide)]
          rfl
        · unfold m_X10_line
          rw [l10, Option.bind_some, if_neg (by decide), w10, Option.bind_some, if_neg (by decide), isPart10, e10, Option.bind_some, if_pos rfl]
          rfl
    · refine bad (-1) 1 (by decide) (by decide) ?_ ?_
      · unfold m_X9_line m_X9_whyNoLineValue
        rw [l9, Option.bind_some, if_neg (by decide), w9, Option.bind_some, if_pos rfl, Option.bind_some, if_neg (by decide)]
        rfl
      · unfold m_X10_line
        rw [l10, Option.bind_some, if_neg (by decide), w10, Option.bind_some, if_pos rfl]
        rfl
  · refine bad (-2) 2 (by decide) (by decide) ?_ ?_
    · unfold m_X9_line m_X9_whyNoLineValue
      rw [l9, Option.bind_some, if_pos rfl, Option.bind_some, if_neg (by decide)]
      rfl
    · unfold m_X10_line
      rw [l10, Option.bind_some, if_pos rfl]
      rfl
theorem op_merges : OP_merges Rel := by
  intro s9 s10 p1 ⟨A, hok, h6, h10, rI, rL, rT, rH, rR, rS, rB⟩
  rcases line_cases p1 with ⟨l, hl, rfl, l9, l10⟩ | ⟨l9, l10⟩
  · obtain ⟨r, r1, r2, r3, r4, r5⟩ := work4 (p9_standing s9) h6 hok hl
    obtain ⟨f, a, b, f1, f2⟩ := lines10 h10 hok hl
    refine ⟨(nI (begC A - (lnK A l).1), p9_refusals s9, r), (nI (begC A - (lnK A l).1), p10_refusals s10, a, b, f, nI (lnK A l).1, nI (begC A - (lnK A l).1)), ?_, ?_, rfl, Rel_q rI rL rT rH (by dsimp only [keep9q, st_X9_merges]) (by dsimp only [keep10, st_X10_merges]) hok (by dsimp only [st_X9_merges]; exact h6) (S10_mk h10 (by dsimp only [c10, st_X10_merges])) (by dsimp only [st_X9_merges, st_X10_merges]; exact rR) (by dsimp only [st_X9_merges]; exact rS) (by dsimp only [RelB, st_X9_merges]; exact rB)⟩
    · unfold m_X9_merges m_X4_mergeCount
      rw [l9, Option.bind_some, if_neg (by decide), r1, Option.bind_some, Option.bind_some, ← r5]
    · unfold m_X10_merges
      rw [l10, Option.bind_some, if_neg (by decide), f1, Option.bind_some]
  · refine ⟨(-2, cnt (p9_refusals s9) 2, cur4 (p9_standing s9)), (-2, cnt (p10_refusals s10) 2, curM10 s10), ?_, ?_, rfl, A, hok, h6, h10, rI, rL, rT, rH, Req_cnt rR (by decide), rS, rB⟩
    · unfold m_X9_merges
      rw [l9, Option.bind_some, if_pos rfl, use9 s9 (k := 2) (by decide) (by decide), Option.bind_some]
      rfl
    · unfold m_X10_merges
      rw [l10, Option.bind_some, if_pos rfl, no10 s10 (k := 2) (by decide) (by decide), Option.bind_some]
      rfl
