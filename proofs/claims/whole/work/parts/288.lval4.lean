/-! THE LINE's values: told, and as the class lays them -/
theorem cut_ex {x : Nat → Nat} {r : Nat} (h0 : x 0 = 0) : ∀ c, r < x c → ∃ i, i < c ∧ x i ≤ r ∧ r < x (i + 1) := by
  intro c
  induction c with
  | zero => intro h; omega
  | succ c ih =>
    intro h
    rcases Nat.lt_or_ge r (x c) with q | q
    · obtain ⟨i, i1, i2⟩ := ih q
      exact ⟨i, by omega, i2⟩
    · exact ⟨c, by omega, q, h⟩
theorem cut_mono {x : Nat → Nat} {c : Nat} (h : ∀ i, i < c → x i ≤ x (i + 1)) {a : Nat} : ∀ {b}, a ≤ b → b ≤ c → x a ≤ x b := by
  intro b
  induction b with
  | zero => intro h1 _; rw [show a = 0 by omega]; exact Nat.le_refl _
  | succ b ih =>
    intro h1 h2
    rcases Nat.lt_or_ge a (b + 1) with q | q
    · exact Nat.le_trans (ih (by omega) (by omega)) (h b (by omega))
    · rw [show a = b + 1 by omega]; exact Nat.le_refl _
/-- the block of a paper, by its number -/
def ixK (A : Sh) (l p : Nat) : Nat := fw (fun i => ((lnK A l).2.1 i).testBit p) (lnK A l).1
theorem BKS_one {A : Sh} {rk : Nat → Nat} {c : Nat} {g x : Nat → Nat} (h : BKS A rk c g x) {p : Nat} (hp : p < hN A) : fw (fun i => (g i).testBit p) c < c ∧ ∀ i, i < c → ((g i).testBit p = true ↔ i = fw (fun i => (g i).testBit p) c) := by
  obtain ⟨h1, h2, h3, h4, h5⟩ := h
  obtain ⟨i, i1, i2, i3⟩ := cut_ex h2 c (h4 p hp)
  have bi : (g i).testBit p = true := ((h5 i i1).2.2 p hp).mpr ⟨i2, i3⟩
  have un : ∀ j, j < c → (g j).testBit p = true → j = i := fun j hj hb => by
    obtain ⟨j1, j2⟩ := ((h5 j hj).2.2 p hp).mp hb
    rcases Nat.lt_trichotomy j i with q | q | q
    · have := cut_mono h3 (show j + 1 ≤ i by omega) (by omega); omega
    · exact q
    · have := cut_mono h3 (show i + 1 ≤ j by omega) (by omega); omega
  have e : fw (fun i => (g i).testBit p) c = i := fw_at (w := fun i => (g i).testBit p) bi (fun j hj => by
    have : ¬ (g j).testBit p = true := fun q => by have := un j (by omega) q; omega
    simpa using this) i1
  rw [e]
  exact ⟨i1, fun j hj => ⟨un j hj, fun q => by rw [q]; exact bi⟩⟩
theorem ixK_in {A : Sh} (hok : okS A) (l : Nat) {p : Nat} (hp : p < hN A) : ixK A l p < (lnK A l).1 ∧ ∀ i, i < (lnK A l).1 → (((lnK A l).2.1 i).testBit p = true ↔ i = ixK A l p) := BKS_one (lnK_ok hok l).1 hp
def blk (A : Sh) (l p : Nat) : Nat := (lnK A l).2.1 (ixK A l p)
theorem blk_in {A : Sh} (hok : okS A) (l : Nat) {p : Nat} (hp : p < hN A) : blk A l p ≠ 0 ∧ blk A l p < 2 ^ hN A ∧ (blk A l p).testBit p = true := by
  obtain ⟨a, b⟩ := ixK_in hok l hp
  obtain ⟨c1, c2⟩ := (BKS_all (lnK_ok hok l).1).2 _ a
  exact ⟨c1, c2, (b _ a).mpr rfl⟩
def plc (A : Sh) (p : Nat) : Nat := ofPl A (hP A p)
theorem plc_in {A : Sh} {p : Nat} (hp : p < hN A) : plc A p ≠ 0 ∧ plc A p < 2 ^ hN A := by
  refine ⟨fun e => ?_, ofPl_lt A _⟩
  have := (ofPl_bit (v := hP A p) hp).mpr rfl
  unfold plc at e
  rw [e, Nat.zero_testBit] at this
  cases this
/-- by MEANS, over a block S -/
def mnN (A : Sh) (l S p : Nat) : Int := (((mkA A p * nuD A l S + nuU A l S) * nuD A l (plc A p) : Nat) : Int) - ((nuU A l (plc A p) * nuD A l S : Nat) : Int)
def mnD (A : Sh) (l S p : Nat) : Nat := nuD A l S * nuD A l (plc A p)
theorem mn_in {A : Sh} (hok : okS A) (l : Nat) {S p : Nat} (hp : p < hN A) (hS : S < 2 ^ hN A) (h0 : S ≠ 0) : 0 < mnD A l S p ∧ mnD A l S p ≤ 15876 ∧ -1873368 ≤ mnN A l S p ∧ mnN A l S p ≤ 3746736 := by
  obtain ⟨a1, a2, a3⟩ := nu_in hok l hS h0
  obtain ⟨b1, b2, b3⟩ := nu_in hok l (plc_in hp).2 (plc_in hp).1
  have m := mkA_le hok hp
  have e1 : mkA A p * nuD A l S ≤ 118 * 126 := Nat.mul_le_mul m a2
  have e2 : (mkA A p * nuD A l S + nuU A l S) * nuD A l (plc A p) ≤ 29736 * 126 := Nat.mul_le_mul (by omega) b2
  have e3 : nuU A l (plc A p) * nuD A l S ≤ 14868 * 126 := Nat.mul_le_mul (by omega) a2
  refine ⟨Nat.mul_pos a1 b1, ?_, ?_, ?_⟩
  · have : nuD A l S * nuD A l (plc A p) ≤ 126 * 126 := Nat.mul_le_mul a2 b2
    unfold mnD; omega
  · unfold mnN; omega
  · unfold mnN; omega
/-- a value, above and below the line, not yet in least terms -/
def lvN (A : Sh) (l p : Nat) : Int := if hT A = 2 then mnN A l (blk A l p) p else (nuU A l (blk A l p) : Int)
def lvD (A : Sh) (l p : Nat) : Nat := if hT A = 2 then mnD A l (blk A l p) p else nuD A l (blk A l p)
def lvQ (A : Sh) (l p : Nat) : Rat := mkRat (lvN A l p) (lvD A l p)
theorem lv_in {A : Sh} (hok : okS A) (l : Nat) {p : Nat} (hp : p < hN A) : 0 < lvD A l p ∧ lvD A l p ≤ 15876 ∧ -1873368 ≤ lvN A l p ∧ lvN A l p ≤ 3746736 := by
  obtain ⟨b1, b2, b3⟩ := blk_in hok l hp
  unfold lvD lvN
  split
  · exact mn_in hok l hp b2 b1
  · obtain ⟨a1, a2, a3⟩ := nu_in hok l b2 b1
    exact ⟨by omega, by omega, by omega, by omega⟩
theorem layMeans4 {s : T4} {A : Sh} {l c i : Nat} {g : Nat → Nat} (hv : SV8 (p4_values s) A) (hl0 : p4_loss s = nI l) (hok : okS A) (hl : l < 2) (ab : allB A c g) (e1 : Eqn (p4_blocks s) g c) (e2 : Eqn (p4_tops s) (tB A l g) c) (e3 : Eqn (p4_bottoms s) (bB A l g) c) (hi : i < c) : ∃ fa fb za zb, m_X4_layByMeans s (nI i) = some (fa, fb, za, zb) ∧ ∀ p, p < hN A → ((g i).testBit p = true → fa p = zI (mkRat (mnN A l (g i) p) (mnD A l (g i) p)).num ∧ fb p = nI (mkRat (mnN A l (g i) p) (mnD A l (g i) p)).den) ∧ (¬ (g i).testBit p = true → fa p = p8_aboves (p4_values s) p ∧ fb p = p8_belows (p4_values s) p) := by
  have n7 := hok.1.1
  have p7 := pow_le7 n7
  have c7 := ab.1
  obtain ⟨g0, gl⟩ := ab.2 i hi
  obtain ⟨a1, a2, a3⟩ := nu_in hok l gl g0
  obtain ⟨r, e, fa, fb, za, zb, rfl, q⟩ := lp_invf (f := fun z : Int32 × (Nat → Int32) × (Nat → Int32) × Int64 × Int64 => m_X4_layByMeans_l24 s (nI i) (nI (nuU A l (g i))) (nI (nuD A l (g i))) z.1 z.2.1 z.2.2.1 z.2.2.2.1 z.2.2.2.2) (I := fun d z => ∃ k fa fb za zb, k ≤ hN A ∧ d = hN A - k ∧ z = (nI k, fa, fb, za, zb) ∧ ∀ p, p < hN A → ((g i).testBit p = true ∧ p < k → fa p = zI (mkRat (mnN A l (g i) p) (mnD A l (g i) p)).num ∧ fb p = nI (mkRat (mnN A l (g i) p) (mnD A l (g i) p)).den) ∧ (¬ ((g i).testBit p = true ∧ p < k) → fa p = p8_aboves (p4_values s) p ∧ fb p = p8_belows (p4_values s) p)) (Q := fun r => ∃ fa fb za zb, r = (fa, fb, za, zb) ∧ ∀ p, p < hN A → ((g i).testBit p = true → fa p = zI (mkRat (mnN A l (g i) p) (mnD A l (g i) p)).num ∧ fb p = nI (mkRat (mnN A l (g i) p) (mnD A l (g i) p)).den) ∧ (¬ (g i).testBit p = true → fa p = p8_aboves (p4_values s) p ∧ fb p = p8_belows (p4_values s) p)) (d := hN A) (s := ((0 : Int32), p8_aboves (p4_values s), p8_belows (p4_values s), p1_above (p8_reduced (p4_values s)), p1_below (p8_reduced (p4_values s)))) (by
    rintro d z ⟨k, fa, fb, za, zb, hk, hd, rfl, q⟩
    have hv' : SV8 (u8_reduced (u1_below zb (u1_above za (p8_reduced (p4_values s)))) (u8_belows fb (u8_aboves fa (p4_values s)))) A := hv
    rcases Nat.lt_or_ge k (hN A) with w | w
    · refine Or.inl ?_
      by_cases cb : (g i).testBit k = true
      · obtain ⟨p0, pl⟩ := plc_in w
        obtain ⟨b1, b2, b3⟩ := nu_in hok l pl p0
        obtain ⟨d1, d2, d3, d4⟩ := mn_in hok l w gl g0
        have m := mkA_le hok w
        have hb := hP_le hok w
        have t4 := top4 (s := u4_values (u8_reduced (u1_below zb (u1_above za (p8_reduced (p4_values s)))) (u8_belows fb (u8_aboves fa (p4_values s)))) s) hv' hok hl hl0 pl p0
        have b4 := bottom4 (s := u4_values (u8_reduced (u1_below zb (u1_above za (p8_reduced (p4_values s)))) (u8_belows fb (u8_aboves fa (p4_values s)))) s) hv' hok hl hl0 pl
        have num : ((nI (mkA A k)).toInt64 * (nI (nuD A l (g i))).toInt64 + (nI (nuU A l (g i))).toInt64) * (nI (nuD A l (plc A k))).toInt64 - (nI (nuU A l (plc A k))).toInt64 * (nI (nuD A l (g i))).toInt64 = J (mnN A l (g i) k) := by
          rw [nI_64 (k := mkA A k) (by omega), nI_64 (k := nuD A l (g i)) (by omega), nI_64 (k := nuU A l (g i)) (by omega), nI_64 (k := nuD A l (plc A k)) (by omega), nI_64 (k := nuU A l (plc A k)) (by omega), J_mul, J_add, J_mul, J_mul, J_sub]
          rfl
        have den : (nI (nuD A l (g i))).toInt64 * (nI (nuD A l (plc A k))).toInt64 = J (mnD A l (g i) k : Int) := by
          rw [nI_64 (k := nuD A l (g i)) (by omega), nI_64 (k := nuD A l (plc A k)) (by omega), J_mul, ← Int.natCast_mul]
          rfl
        obtain ⟨ga, gb, y1, y2⟩ := lay8 (s := u8_reduced (u1_below zb (u1_above za (p8_reduced (p4_values s)))) (u8_belows fb (u8_aboves fa (p4_values s)))) n7 hv'.2.2.2 (x := 2 ^ k) (by
          have : 2 ^ k < 2 ^ 7 := Nat.pow_lt_pow_right (by decide) (by omega)
          omega) (a := mnN A l (g i) k) (b := mnD A l (g i) k) ⟨by omega, by omega⟩ d1 (rng_nat (by omega))
        refine ⟨hN A - (k + 1), (nI (k + 1), ga, gb, J (mkRat (mnN A l (g i) k) (mnD A l (g i) k)).num, J ((mkRat (mnN A l (g i) k) (mnD A l (g i) k)).den : Int)), ?_, by omega, k + 1, ga, gb, _, _, by omega, rfl, rfl, fun p hp => ?_⟩
        · show m_X4_layByMeans_l24 s (nI i) (nI (nuU A l (g i))) (nI (nuD A l (g i))) (nI k) fa fb za zb = _
          unfold m_X4_layByMeans_l24 m_X8_paperCount
          rw [Option.bind_some, hv'.2.2.2, if_neg (nI_ge w (by omega)), get_in (by omega) (by decide), Option.bind_some, e1 i hi, hasBit9 (by omega) (by omega), if_pos cb, Option.bind_some, if_neg (by decide), placeAt8 hv' hok w, Option.bind_some, papersAt8 hv' hok (by omega), Option.bind_some]
          have t4' : m_X4_numberTop (u4_values (u8_reduced (u1_below zb (u1_above za (p8_reduced (p4_values s)))) (u8_belows fb (u8_aboves fa (p4_values s)))) s) (nI (ofPl A (hP A k))) = _ := t4
          have b4' : m_X4_numberBottom (u4_values (u8_reduced (u1_below zb (u1_above za (p8_reduced (p4_values s)))) (u8_belows fb (u8_aboves fa (p4_values s)))) s) (nI (ofPl A (hP A k))) = _ := b4
          rw [t4', Option.bind_some, b4', Option.bind_some, markAt8 hv' hok w, Option.bind_some, Option.bind_some, num, den, nI_shl1 _ (by omega), y1, Option.bind_some, nI_1]
        · obtain ⟨z1, z2⟩ := y2 p hp
          rw [p2_bit] at z1 z2
          by_cases e : k = p
          · subst e
            exact ⟨fun _ => z1 rfl, fun n => absurd ⟨cb, by omega⟩ n⟩
          · obtain ⟨v1, v2⟩ := z2 e
            have v1' : ga p = fa p := v1
            have v2' : gb p = fb p := v2
            rw [v1', v2']
            exact ⟨fun h => (q p hp).1 ⟨h.1, by omega⟩, fun h => (q p hp).2 (fun y => h ⟨y.1, by omega⟩)⟩
      · refine ⟨hN A - (k + 1), (nI (k + 1), fa, fb, za, zb), ?_, by omega, k + 1, fa, fb, za, zb, by omega, rfl, rfl, fun p hp => ?_⟩
        · show m_X4_layByMeans_l24 s (nI i) (nI (nuU A l (g i))) (nI (nuD A l (g i))) (nI k) fa fb za zb = _
          unfold m_X4_layByMeans_l24 m_X8_paperCount
          rw [Option.bind_some, hv'.2.2.2, if_neg (nI_ge w (by omega)), get_in (by omega) (by decide), Option.bind_some, e1 i hi, hasBit9 (by omega) (by omega), if_neg cb, Option.bind_some, if_pos rfl, nI_1]
        · by_cases e : k = p
          · subst e
            exact ⟨fun h => absurd h.1 cb, fun _ => (q k hp).2 (fun y => cb y.1)⟩
          · exact ⟨fun h => (q p hp).1 ⟨h.1, by omega⟩, fun h => (q p hp).2 (fun y => h ⟨y.1, by omega⟩)⟩
    · refine Or.inr ⟨(fa, fb, za, zb), ?_, fa, fb, za, zb, rfl, fun p hp => ⟨fun h => (q p hp).1 ⟨h, by omega⟩, fun h => (q p hp).2 (fun y => h y.1)⟩⟩
      show m_X4_layByMeans_l24 s (nI i) (nI (nuU A l (g i))) (nI (nuD A l (g i))) (nI k) fa fb za zb = _
      unfold m_X4_layByMeans_l24 m_X8_paperCount
      rw [Option.bind_some, hv'.2.2.2, if_pos (nI_le w (by omega))]) ⟨0, _, _, _, _, Nat.zero_le _, rfl, rfl, fun p hp => ⟨fun h => absurd h.2 (Nat.not_lt_zero p), fun _ => ⟨rfl, rfl⟩⟩⟩ (by omega)
  refine ⟨fa, fb, za, zb, ?_, q⟩
  unfold m_X4_layByMeans
  rw [get_in (by omega) (by decide), Option.bind_some, get_in (by omega) (by decide), Option.bind_some, e2 i hi, e3 i hi]
  unfold tB bB
  rw [e, Option.bind_some]
theorem layAll4 {s : T4} {A : Sh} {l : Nat} (hv : SV8 (p4_values s) A) (hl0 : p4_loss s = nI l) (hok : okS A) (hl : l < 2) (e0 : p4_blocksNow s = nI (lnK A l).1) (e1 : Eqn (p4_blocks s) (lnK A l).2.1 (lnK A l).1) (e2 : Eqn (p4_tops s) (tB A l (lnK A l).2.1) (lnK A l).1) (e3 : Eqn (p4_bottoms s) (bB A l (lnK A l).2.1) (lnK A l).1) : ∃ fa fb za zb, m_X4_layAll s (if hT A = 2 then 1 else 0) = some (fa, fb, za, zb) ∧ ∀ p, p < hN A → fa p = zI (lvQ A l p).num ∧ fb p = nI (lvQ A l p).den := by
  have n7 := hok.1.1
  have p7 := pow_le7 n7
  have bk := (lnK_ok hok l).1
  have ab := BKS_all bk
  have c7 := ab.1
  obtain ⟨r, e, fa, fb, za, zb, rfl, q⟩ := lp_invf (f := fun z : Int32 × (Nat → Int32) × (Nat → Int32) × Int64 × Int64 => m_X4_layAll_l2 s (if hT A = 2 then 1 else 0) z.1 z.2.1 z.2.2.1 z.2.2.2.1 z.2.2.2.2) (I := fun d z => ∃ k fa fb za zb, k ≤ (lnK A l).1 ∧ d = (lnK A l).1 - k ∧ z = (nI k, fa, fb, za, zb) ∧ ∀ p, p < hN A → ixK A l p < k → fa p = zI (lvQ A l p).num ∧ fb p = nI (lvQ A l p).den) (Q := fun r => ∃ fa fb za zb, r = (fa, fb, za, zb) ∧ ∀ p, p < hN A → fa p = zI (lvQ A l p).num ∧ fb p = nI (lvQ A l p).den) (d := (lnK A l).1) (s := ((0 : Int32), p8_aboves (p4_values s), p8_belows (p4_values s), p1_above (p8_reduced (p4_values s)), p1_below (p8_reduced (p4_values s)))) (by
    rintro d z ⟨k, fa, fb, za, zb, hk, hd, rfl, q⟩
    rcases Nat.lt_or_ge k (lnK A l).1 with w | w
    · obtain ⟨g0, gl⟩ := ab.2 k w
      obtain ⟨a1, a2, a3⟩ := nu_in hok l gl g0
      have hv' : SV8 (u8_reduced (u1_below zb (u1_above za (p8_reduced (p4_values s)))) (u8_belows fb (u8_aboves fa (p4_values s)))) A := hv
      -- who is of block k
      have mine : ∀ p, p < hN A → (((lnK A l).2.1 k).testBit p = true ↔ ixK A l p = k) := fun p hp => ((ixK_in hok l hp).2 k w).trans ⟨fun h => h.symm, fun h => h.symm⟩
      refine Or.inl ?_
      by_cases t : hT A = 2
      · obtain ⟨ga, gb, ya, yb, y1, y2⟩ := layMeans4 (s := u4_values (u8_reduced (u1_below zb (u1_above za (p8_reduced (p4_values s)))) (u8_belows fb (u8_aboves fa (p4_values s)))) s) hv' hl0 hok hl ab e1 e2 e3 w
        refine ⟨(lnK A l).1 - (k + 1), (nI (k + 1), ga, gb, ya, yb), ?_, by omega, k + 1, ga, gb, ya, yb, by omega, rfl, rfl, fun p hp hx => ?_⟩
        · show m_X4_layAll_l2 s (if hT A = 2 then 1 else 0) (nI k) fa fb za zb = _
          unfold m_X4_layAll_l2
          rw [e0, if_neg (nI_ge w (by omega)), if_pos t, if_neg (by decide), y1, Option.bind_some, nI_1]
        · obtain ⟨z1, z2⟩ := y2 p hp
          by_cases e : ixK A l p = k
          · have := z1 ((mine p hp).mpr e)
            unfold lvQ lvN lvD blk
            rw [if_pos t, if_pos t, e]
            exact this
          · obtain ⟨v1, v2⟩ := z2 (fun y => e ((mine p hp).mp y))
            have v1' : ga p = fa p := v1
            have v2' : gb p = fb p := v2
            rw [v1', v2']
            exact q p hp (by omega)
      · obtain ⟨ga, gb, y1, y2⟩ := lay8 (s := u8_reduced (u1_below zb (u1_above za (p8_reduced (p4_values s)))) (u8_belows fb (u8_aboves fa (p4_values s)))) n7 hv'.2.2.2 (x := (lnK A l).2.1 k) (by omega) (a := (nuU A l ((lnK A l).2.1 k) : Int)) (b := nuD A l ((lnK A l).2.1 k)) (rng_nat (by omega)) a1 (rng_nat (by omega))
        refine ⟨(lnK A l).1 - (k + 1), (nI (k + 1), ga, gb, J (mkRat (nuU A l ((lnK A l).2.1 k) : Int) (nuD A l ((lnK A l).2.1 k))).num, J ((mkRat (nuU A l ((lnK A l).2.1 k) : Int) (nuD A l ((lnK A l).2.1 k))).den : Int)), ?_, by omega, k + 1, ga, gb, _, _, by omega, rfl, rfl, fun p hp hx => ?_⟩
        · show m_X4_layAll_l2 s (if hT A = 2 then 1 else 0) (nI k) fa fb za zb = _
          unfold m_X4_layAll_l2
          rw [e0, if_neg (nI_ge w (by omega)), if_neg t, if_pos rfl, get_in (by omega) (by decide), Option.bind_some, get_in (by omega) (by decide), Option.bind_some, get_in (by omega) (by decide), Option.bind_some, e1 k w, e2 k w, e3 k w]
          unfold tB bB
          rw [nI_64 (k := nuU A l ((lnK A l).2.1 k)) (by omega), nI_64 (k := nuD A l ((lnK A l).2.1 k)) (by omega), y1, Option.bind_some, nI_1]
        · obtain ⟨z1, z2⟩ := y2 p hp
          by_cases e : ixK A l p = k
          · have := z1 ((mine p hp).mpr e)
            unfold lvQ lvN lvD blk
            rw [if_neg t, if_neg t, e]
            exact this
          · obtain ⟨v1, v2⟩ := z2 (fun y => e ((mine p hp).mp y))
            have v1' : ga p = fa p := v1
            have v2' : gb p = fb p := v2
            rw [v1', v2']
            exact q p hp (by omega)
    · refine Or.inr ⟨(fa, fb, za, zb), ?_, fa, fb, za, zb, rfl, fun p hp => q p hp (by have := (ixK_in hok l hp).1; omega)⟩
      show m_X4_layAll_l2 s (if hT A = 2 then 1 else 0) (nI k) fa fb za zb = _
      unfold m_X4_layAll_l2
      rw [e0, if_pos (nI_le w (by omega))]) ⟨0, _, _, _, _, Nat.zero_le _, rfl, rfl, fun p hp h => absurd h (Nat.not_lt_zero _)⟩ (by omega)
  refine ⟨fa, fb, za, zb, ?_, q⟩
  unfold m_X4_layAll
  rw [e, Option.bind_some]
/-- what THE LINE's work leaves -/
abbrev T14 : Type := (Nat → Int32) × (Nat → Int32) × (Nat → Int32) × (Nat → Int32) × (Nat → Int32) × Int64 × Int64 × Int32 × (Nat → Int32) × (Nat → Int32) × (Nat → Int32) × Int32 × Int32 × Int32
abbrev stVL (s : T4) (r : T14) : T8 := u8_papers r.2.2.2.2.2.2.2.1 (u8_reduced (u1_below r.2.2.2.2.2.2.1 (u1_above r.2.2.2.2.2.1 (p8_reduced (p4_values s)))) (u8_belows r.2.2.2.2.1 (u8_aboves r.2.2.2.1 (u8_places r.2.2.1 (u8_weights r.2.1 (u8_marks r.1 (p4_values s)))))))
def VL (s : T8) (A : Sh) (l : Nat) : Prop := SV8 s A ∧ ∀ p, p < hN A → p8_aboves s p = zI (lvQ A l p).num ∧ p8_belows s p = nI (lvQ A l p).den
theorem work4 (s : T4) {t : T6} {A : Sh} (h6 : S6 t A) (hok : okS A) {l : Nat} (hl : l < 2) : ∃ r : T14, m_X4_work s t (nI l) = some r ∧ VL (stVL s r) A l ∧ Eqn r.2.2.2.2.2.2.2.2.1 (lnK A l).2.1 (lnK A l).1 ∧ r.2.2.2.2.2.2.2.2.2.2.2.1 = nI (lnK A l).1 ∧ r.2.2.2.2.2.2.2.2.2.2.2.2.1 = nI (begC A - (lnK A l).1) := by
  have t2 := hok.2.2.2
  have bk := beg_ok hok
  obtain ⟨b, b1, b2, b3, b4, b5, b6, b7⟩ := begin8 (p4_values s) h6 hok
  have hv : SV8 (u8_papers b.2.2.2.2.2 (u8_belows b.2.2.2.2.1 (u8_aboves b.2.2.2.1 (u8_places b.2.2.1 (u8_weights b.2.1 (u8_marks b.1 (p4_values s))))))) A := ⟨b2, b3, b4, b7⟩
  have ti : m_X6_tiesNow t = some (nI (hT A)) := by
    unfold m_X6_tiesNow
    rw [h6.2.2.2.2]
  -- what stands at first
  have st : ∃ f, (if nI (hT A) = 0 then ((m_X4_standOneByOne (u4_loss (nI l) (u4_mergesDone 0 (u4_blocksNow 0 (u4_values (u8_papers b.2.2.2.2.2 (u8_belows b.2.2.2.2.1 (u8_aboves b.2.2.2.1 (u8_places b.2.2.1 (u8_weights b.2.1 (u8_marks b.1 (p4_values s))))))) s))))).bind fun x11 => some (x11.1, x11.2)) else ((m_X4_standByPlaces (u4_loss (nI l) (u4_mergesDone 0 (u4_blocksNow 0 (u4_values (u8_papers b.2.2.2.2.2 (u8_belows b.2.2.2.2.1 (u8_aboves b.2.2.2.1 (u8_places b.2.2.1 (u8_weights b.2.1 (u8_marks b.1 (p4_values s))))))) s))))).bind fun x10 => some (x10.1, x10.2)) : Option ((Nat → Int32) × Int32)) = some (f, nI (begC A)) ∧ Eqn f (begG A) (begC A) := by
    unfold begC begG
    by_cases c : hT A = 0
    · obtain ⟨f, f1, f2⟩ := oneByOne4 (s := u4_loss (nI l) (u4_mergesDone 0 (u4_blocksNow 0 (u4_values (u8_papers b.2.2.2.2.2 (u8_belows b.2.2.2.2.1 (u8_aboves b.2.2.2.1 (u8_places b.2.2.1 (u8_weights b.2.1 (u8_marks b.1 (p4_values s))))))) s)))) hv hok rfl
      refine ⟨f, ?_, ?_⟩
      · rw [if_pos (by rw [c]; rfl), f1, Option.bind_some, if_pos c]
      · rw [if_pos c, if_pos c]; exact f2
    · obtain ⟨f, f1, f2⟩ := byPlaces4 (s := u4_loss (nI l) (u4_mergesDone 0 (u4_blocksNow 0 (u4_values (u8_papers b.2.2.2.2.2 (u8_belows b.2.2.2.2.1 (u8_aboves b.2.2.2.1 (u8_places b.2.2.1 (u8_weights b.2.1 (u8_marks b.1 (p4_values s))))))) s)))) hv hok rfl
      refine ⟨f, ?_, ?_⟩
      · rw [if_neg (nI_z (by omega) c), f1, Option.bind_some, if_neg c]
      · rw [if_neg c, if_neg c]; exact f2
  obtain ⟨f, f1, f2⟩ := st
  obtain ⟨m1, m2, m3, g1, g2, g3, g4⟩ := mergeAll4 (s := u4_loss (nI l) (u4_mergesDone 0 (u4_blocksNow (nI (begC A)) (u4_blocks f (u4_values (u8_papers b.2.2.2.2.2 (u8_belows b.2.2.2.2.1 (u8_aboves b.2.2.2.1 (u8_places b.2.2.1 (u8_weights b.2.1 (u8_marks b.1 (p4_values s))))))) s))))) ⟨hv, rfl⟩ hok hl bk rfl f2 rfl
  obtain ⟨fa, fb, za, zb, y1, y2⟩ := layAll4 (s := u4_loss (nI l) (u4_mergesDone (nI (begC A - (lnK A l).1)) (u4_blocksNow (nI (lnK A l).1) (u4_bottoms m3 (u4_tops m2 (u4_blocks m1 (u4_values (u8_papers b.2.2.2.2.2 (u8_belows b.2.2.2.2.1 (u8_aboves b.2.2.2.1 (u8_places b.2.2.1 (u8_weights b.2.1 (u8_marks b.1 (p4_values s))))))) s))))))) hv rfl hok hl rfl g2 g3 g4
  refine ⟨(b.1, b.2.1, b.2.2.1, fa, fb, za, zb, b.2.2.2.2.2, m1, m2, m3, nI (lnK A l).1, nI (begC A - (lnK A l).1), nI l), ?_, ⟨⟨b2, b3, b4, b7⟩, y2⟩, g2, rfl, rfl⟩
  have e2 : (if nI (hT A) = 2 then (some 1) else (some 0) : Option Int32) = some (if hT A = 2 then 1 else 0) := by
    by_cases c : hT A = 2
    · rw [if_pos (by rw [c]; rfl), if_pos c]
    · rw [if_neg (nI_two (by omega) c), if_neg c]
  unfold m_X4_work
  rw [b1, Option.bind_some, ti, Option.bind_some, f1, Option.bind_some, g1, Option.bind_some, Option.bind_some, e2, Option.bind_some]
  have y1' : m_X4_layAll (u4_loss (nI l) (u4_mergesDone (nI (begC A - (mgo A l 7 (begC A) (begG A) (begX A)).1)) (u4_blocksNow (nI (mgo A l 7 (begC A) (begG A) (begX A)).1) (u4_bottoms m3 (u4_tops m2 (u4_blocks m1 (u4_values (u8_papers b.2.2.2.2.2 (u8_belows b.2.2.2.2.1 (u8_aboves b.2.2.2.1 (u8_places b.2.2.1 (u8_weights b.2.1 (u8_marks b.1 (p4_values s))))))) s))))))) (if hT A = 2 then 1 else 0) = _ := y1
  rw [y1', Option.bind_some]
  rfl
