/-! likely -/
abbrev stB (s : T0) (r : T16) : T0 := u0_downs r.2.2.2.2.2.2.2.2.2.2.2.2.2.2.2 (u0_weighs r.2.2.2.2.2.2.2.2.2.2.2.2.2.2.1 (u0_sums r.2.2.2.2.2.2.2.2.2.2.2.2.2.1 (u0_order (u5_papers r.2.2.2.2.2.2.2.2.2.2.2.2.1 (u5_wrongs r.2.2.2.2.2.2.2.2.2.2.2.1 (u5_marks r.2.2.2.2.2.2.2.2.2.2.1 (u5_unders r.2.2.2.2.2.2.2.2.2.1 (u5_overs r.2.2.2.2.2.2.2.2.1 (p0_order s)))))) (u0_values (stV s r) s))))
def fl (r : T16) : T8 := (r.1, r.2.1, r.2.2.1, r.2.2.2.1, r.2.2.2.2.1, (r.2.2.2.2.2.1, r.2.2.2.2.2.2.1), r.2.2.2.2.2.2.2.1)
theorem stV_fl (s : T0) (r : T16) : stV s r = fl r := rfl
abbrev T18 : Type := (Nat → Int32) × (Nat → Int32) × (Nat → Int32) × (Nat → Int32) × (Nat → Int32) × Int64 × Int64 × Int32 × (Nat → Int32) × (Nat → Int32) × (Nat → Int32) × (Nat → Int32) × Int32 × (Nat → Int32) × (Nat → Int32) × (Nat → Int32) × Int64 × Int64
def snoc (r : T16) (a b : Int64) : T18 := (r.1, r.2.1, r.2.2.1, r.2.2.2.1, r.2.2.2.2.1, r.2.2.2.2.2.1, r.2.2.2.2.2.2.1, r.2.2.2.2.2.2.2.1, r.2.2.2.2.2.2.2.2.1, r.2.2.2.2.2.2.2.2.2.1, r.2.2.2.2.2.2.2.2.2.2.1, r.2.2.2.2.2.2.2.2.2.2.2.1, r.2.2.2.2.2.2.2.2.2.2.2.2.1, r.2.2.2.2.2.2.2.2.2.2.2.2.2.1, r.2.2.2.2.2.2.2.2.2.2.2.2.2.2.1, r.2.2.2.2.2.2.2.2.2.2.2.2.2.2.2, a, b)
def zero3 (r : T16) : Prop := r.2.2.2.2.2.2.2.2.2.2.2.2.2.1 0 = 0 ∧ r.2.2.2.2.2.2.2.2.2.2.2.2.2.2.1 0 = 0 ∧ r.2.2.2.2.2.2.2.2.2.2.2.2.2.2.2 0 = 0
theorem stepB {s9 : T9} {A : Sh} (h6 : S6 (p9_now s9) A) (hok : okS A) {r : T16} (z : zero3 r) {l W : Nat} (hl : l < 3) (hW : W < 2 ^ 12) : ∃ r' : T16, m_X0_work (stB (p9_byRules s9) r) (p9_now s9) (nI l) (nI W) = some r' ∧ V9 (stV (p9_byRules s9) r') A (vU A l W) (vD A l W) ∧ zero3 r' := by
  obtain ⟨r', a, b, c⟩ := values9 (stB (p9_byRules s9) r) h6 hok z hl hW
  have b2 : V9 (stV (stB (p9_byRules s9) r) r') A (vU A l W) (vD A l W) := b
  rw [stV_fl] at b2
  refine ⟨r', a, ?_, c⟩
  rw [stV_fl]
  exact b2
theorem isMark8 {s : T8} {A : Sh} {l W p : Nat} (hok : okS A) (h : V9 s A (vU A l W) (vD A l W)) (hp : p < hN A) : m_X8_isMark s (nI p) = some (if nI (vU A l W p) = nI (mkA A p) ∧ nI (vD A l W p) = 1 then 1 else 0) := by
  have n7 := hok.1.1
  unfold m_X8_isMark
  rw [get_in (by omega) (by decide), Option.bind_some, get_in (by omega) (by decide), Option.bind_some, get_in (by omega) (by decide), Option.bind_some, h.2.1 p hp, h.2.2 p hp, h.1.1 p hp]
  by_cases c : nI (vU A l W p) = nI (mkA A p)
  · by_cases c2 : nI (vD A l W p) = 1
    · rw [if_pos c, if_pos c2, if_pos ⟨c, c2⟩]
    · rw [if_pos c, if_neg c2, if_neg (fun x => c2 x.2)]
  · rw [if_neg c, if_neg (fun x => c x.1)]
/-- the ways for just these not to be there -/
def wy (t g : Nat) : Nat → Nat
  | 0 => 1
  | k + 1 => wy t g k * (if g.testBit k = true then 1 else t - 1)
theorem wy_le {t : Nat} (ht : t ≤ 20) (h1 : 1 ≤ t) (g : Nat) : ∀ k, wy t g k ≤ 20 ^ k := by
  intro k
  induction k with
  | zero => exact Nat.le_refl 1
  | succ k ih =>
    rw [wy, Nat.pow_succ]
    exact Nat.mul_le_mul ih (by split <;> omega)
theorem tm1 : ∀ t, t < 21 → 2 ≤ t → (nI t - 1).toInt64 = J ((t - 1 : Nat) : Int) := by decide +kernel
theorem ways9 {t g m : Nat} (h1 : 2 ≤ t) (h2 : t ≤ 20) (hm : m ≤ 5) (hg : g < 2 ^ 31) : m_X9_waysOf (nI g) (nI m) (nI t) = some (J (wy t g m : Int)) := by
  have key : lp (fun z : Int64 × Int32 => m_X9_waysOf_l5 (nI g) (nI m) (nI t) z.1 z.2) fu ((1 : Int64), (0 : Int32)) = some (J (wy t g m : Int)) := by
    refine lp_for (fun k => (J (wy t g k : Int), nI k)) m (fun k hk => ?_) ?_ (by omega) rfl
    · simp only [m_X9_waysOf_l5]
      rw [if_neg (nI_ge hk (by omega)), hasBit9 hg (by omega), Option.bind_some, nI_1, tm1 t (by omega) h1, J_mul, show (1 : Int64) = J 1 from rfl, J_mul, wy]
      by_cases c : g.testBit k = true
      · rw [if_pos c, if_neg (by decide), if_pos c, Nat.mul_one, Int.mul_one]
      · rw [if_neg c, if_pos rfl, if_neg c, Int.natCast_mul]
    · simp only [m_X9_waysOf_l5]
      rw [if_pos (nI_le (Nat.le_refl _) (by omega))]
  unfold m_X9_waysOf
  rw [key, Option.bind_some]
theorem ways10 {t g m : Nat} (h1 : 2 ≤ t) (h2 : t ≤ 20) (hm : m ≤ 5) (hg : g < 2 ^ 31) : lp (fun z : Int64 × Int32 => m_X10_likely_l125_2 (nI t) (nI m) (nI g) z.1 z.2) fu ((1 : Int64), (0 : Int32)) = some (J (wy t g m : Int)) := by
  refine lp_for (fun k => (J (wy t g k : Int), nI k)) m (fun k hk => ?_) ?_ (by omega) rfl
  · simp only [m_X10_likely_l125_2]
    rw [if_neg (nI_ge hk (by omega)), has10 hg (by omega), Option.bind_some, nI_1, tm1 t (by omega) h1, J_mul, show (1 : Int64) = J 1 from rfl, J_mul, wy]
    by_cases c : g.testBit k = true
    · rw [if_pos c, if_neg (by decide), if_pos c, Nat.mul_one, Int.mul_one]
    · rw [if_neg c, if_pos rfl, if_neg c, Int.natCast_mul]
  · simp only [m_X10_likely_l125_2]
    rw [if_pos (nI_le (Nat.le_refl _) (by omega))]
theorem all9 {t m : Nat} (h2 : t ≤ 20) (hm : m ≤ 5) : lp (fun z : Int64 × Int32 => m_X9_workLikely_l19 (nI t) (nI m) z.1 z.2) fu ((1 : Int64), (0 : Int32)) = some (J ((t ^ m : Nat) : Int)) := by
  refine lp_for (fun k => (J ((t ^ k : Nat) : Int), nI k)) m (fun k hk => ?_) ?_ (by omega) rfl
  · simp only [m_X9_workLikely_l19]
    rw [if_neg (nI_ge hk (by omega)), nI_1, nI_64 (by omega), J_mul, Nat.pow_succ, Int.natCast_mul]
  · simp only [m_X9_workLikely_l19]
    rw [if_pos (nI_le (Nat.le_refl _) (by omega))]
theorem allw10 {t m : Nat} (h2 : t ≤ 20) (hm : m ≤ 5) : lp (fun z : Int64 × Int32 => m_X10_likely_l87 (nI t) (nI m) z.1 z.2) fu ((1 : Int64), (0 : Int32)) = some (J ((t ^ m : Nat) : Int)) := by
  refine lp_for (fun k => (J ((t ^ k : Nat) : Int), nI k)) m (fun k hk => ?_) ?_ (by omega) rfl
  · simp only [m_X10_likely_l87]
    rw [if_neg (nI_ge hk (by omega)), nI_1, nI_64 (by omega), J_mul, Nat.pow_succ, Int.natCast_mul]
  · simp only [m_X10_likely_l87]
    rw [if_pos (nI_le (Nat.le_refl _) (by omega))]
noncomputable def hit (A : Sh) (l p t m : Nat) : Nat → Nat := sm (fun g => if nI (vU A l g p) = nI (mkA A p) ∧ nI (vD A l g p) = 1 then wy t g m else 0)
theorem hit_le {A : Sh} {l p t m : Nat} (h1 : 2 ≤ t) (h2 : t ≤ 20) (hm : m ≤ 5) (k : Nat) : hit A l p t m k ≤ 20 ^ m * k := by
  unfold hit
  rw [← sm_const]
  refine sm_le (fun g _ => ?_)
  split
  · exact wy_le h2 (by omega) g m
  · exact Nat.zero_le _
theorem hits9 {s9 : T9} {A : Sh} (h6 : S6 (p9_now s9) A) (hok : okS A) (rB : RelB s9) {l p t m : Nat} (hl : l < 3) (hp : p < hN A) (h1 : 2 ≤ t) (h2 : t ≤ 20) (hm : m ≤ 5) : ∃ r : T16, lp (fun z : Int64 × Int32 × (Nat → Int32) × (Nat → Int32) × (Nat → Int32) × (Nat → Int32) × (Nat → Int32) × Int64 × Int64 × Int32 × (Nat → Int32) × (Nat → Int32) × (Nat → Int32) × (Nat → Int32) × Int32 × (Nat → Int32) × (Nat → Int32) × (Nat → Int32) => m_X9_workLikely_l45 s9 (nI l) (nI p) (nI t) (nI m) z.1 z.2.1 z.2.2.1 z.2.2.2.1 z.2.2.2.2.1 z.2.2.2.2.2.1 z.2.2.2.2.2.2.1 z.2.2.2.2.2.2.2.1 z.2.2.2.2.2.2.2.2.1 z.2.2.2.2.2.2.2.2.2.1 z.2.2.2.2.2.2.2.2.2.2.1 z.2.2.2.2.2.2.2.2.2.2.2.1 z.2.2.2.2.2.2.2.2.2.2.2.2.1 z.2.2.2.2.2.2.2.2.2.2.2.2.2.1 z.2.2.2.2.2.2.2.2.2.2.2.2.2.2.1 z.2.2.2.2.2.2.2.2.2.2.2.2.2.2.2.1 z.2.2.2.2.2.2.2.2.2.2.2.2.2.2.2.2.1 z.2.2.2.2.2.2.2.2.2.2.2.2.2.2.2.2.2) fu ((0 : Int64), (0 : Int32), cur0 (p9_byRules s9)) = some (J (hit A l p t m (2 ^ m) : Int), r) ∧ zero3 r := by
  have m5 : 2 ^ m ≤ 32 := Nat.pow_le_pow_right (n := 2) (by decide) hm
  obtain ⟨⟨a, r⟩, e, q1, q2⟩ := lp_invf (f := fun z : Int64 × Int32 × (Nat → Int32) × (Nat → Int32) × (Nat → Int32) × (Nat → Int32) × (Nat → Int32) × Int64 × Int64 × Int32 × (Nat → Int32) × (Nat → Int32) × (Nat → Int32) × (Nat → Int32) × Int32 × (Nat → Int32) × (Nat → Int32) × (Nat → Int32) => m_X9_workLikely_l45 s9 (nI l) (nI p) (nI t) (nI m) z.1 z.2.1 z.2.2.1 z.2.2.2.1 z.2.2.2.2.1 z.2.2.2.2.2.1 z.2.2.2.2.2.2.1 z.2.2.2.2.2.2.2.1 z.2.2.2.2.2.2.2.2.1 z.2.2.2.2.2.2.2.2.2.1 z.2.2.2.2.2.2.2.2.2.2.1 z.2.2.2.2.2.2.2.2.2.2.2.1 z.2.2.2.2.2.2.2.2.2.2.2.2.1 z.2.2.2.2.2.2.2.2.2.2.2.2.2.1 z.2.2.2.2.2.2.2.2.2.2.2.2.2.2.1 z.2.2.2.2.2.2.2.2.2.2.2.2.2.2.2.1 z.2.2.2.2.2.2.2.2.2.2.2.2.2.2.2.2.1 z.2.2.2.2.2.2.2.2.2.2.2.2.2.2.2.2.2) (I := fun d z => ∃ g r, g ≤ 2 ^ m ∧ d = 2 ^ m - g ∧ z = (J (hit A l p t m g : Int), nI g, r) ∧ zero3 r) (Q := fun y => y.1 = J (hit A l p t m (2 ^ m) : Int) ∧ zero3 y.2) (d := 2 ^ m) (s := ((0 : Int64), (0 : Int32), cur0 (p9_byRules s9))) (by
    rintro d z ⟨g, r, hg, hd, rfl, z3⟩
    rcases Nat.lt_or_ge g (2 ^ m) with q | q
    · obtain ⟨r', a1, a2, a3⟩ := stepB h6 hok z3 (W := g) hl (by omega)
      refine Or.inl ⟨2 ^ m - (g + 1), (J (hit A l p t m (g + 1) : Int), nI (g + 1), r'), ?_, by omega, g + 1, r', by omega, rfl, rfl, a3⟩
      show m_X9_workLikely_l45 s9 (nI l) (nI p) (nI t) (nI m) (J (hit A l p t m g : Int)) (nI g) r.1 r.2.1 r.2.2.1 r.2.2.2.1 r.2.2.2.2.1 r.2.2.2.2.2.1 r.2.2.2.2.2.2.1 r.2.2.2.2.2.2.2.1 r.2.2.2.2.2.2.2.2.1 r.2.2.2.2.2.2.2.2.2.1 r.2.2.2.2.2.2.2.2.2.2.1 r.2.2.2.2.2.2.2.2.2.2.2.1 r.2.2.2.2.2.2.2.2.2.2.2.2.1 r.2.2.2.2.2.2.2.2.2.2.2.2.2.1 r.2.2.2.2.2.2.2.2.2.2.2.2.2.2.1 r.2.2.2.2.2.2.2.2.2.2.2.2.2.2.2 = _
      unfold m_X9_workLikely_l45
      rw [nI_shl1 _ (by omega), if_neg (nI_ge q (by omega)), a1, Option.bind_some, isMark8 hok a2 hp, Option.bind_some, ways9 h1 h2 hm (by omega), Option.bind_some, nI_1, J_add]
      have hs : hit A l p t m (g + 1) = hit A l p t m g + (if nI (vU A l g p) = nI (mkA A p) ∧ nI (vD A l g p) = 1 then wy t g m else 0) := rfl
      rw [hs]
      by_cases c : nI (vU A l g p) = nI (mkA A p) ∧ nI (vD A l g p) = 1
      · rw [if_pos c, if_neg (by decide), if_pos c, Int.natCast_add]
      · rw [if_neg c, if_pos rfl, if_neg c]
        rfl
    · refine Or.inr ⟨(J (hit A l p t m g : Int), r), ?_, by rw [show g = 2 ^ m by omega], z3⟩
      show m_X9_workLikely_l45 s9 (nI l) (nI p) (nI t) (nI m) (J (hit A l p t m g : Int)) (nI g) r.1 r.2.1 r.2.2.1 r.2.2.2.1 r.2.2.2.2.1 r.2.2.2.2.2.1 r.2.2.2.2.2.2.1 r.2.2.2.2.2.2.2.1 r.2.2.2.2.2.2.2.2.1 r.2.2.2.2.2.2.2.2.2.1 r.2.2.2.2.2.2.2.2.2.2.1 r.2.2.2.2.2.2.2.2.2.2.2.1 r.2.2.2.2.2.2.2.2.2.2.2.2.1 r.2.2.2.2.2.2.2.2.2.2.2.2.2.1 r.2.2.2.2.2.2.2.2.2.2.2.2.2.2.1 r.2.2.2.2.2.2.2.2.2.2.2.2.2.2.2 = _
      unfold m_X9_workLikely_l45
      rw [nI_shl1 _ (by omega), if_pos (nI_le q (by omega))]) ⟨0, cur0 (p9_byRules s9), Nat.zero_le _, rfl, rfl, rB⟩ (by omega)
  have q1 : a = J (hit A l p t m (2 ^ m) : Int) := q1
  rw [q1] at e
  exact ⟨r, e, q2⟩
theorem hits10 {s : T10} {A : Sh} (h : S10 s A) (hok : okS A) {l p t m : Nat} (hl : l < 3) (hp : p < hN A) (h1 : 2 ≤ t) (h2 : t ≤ 20) (hm : m ≤ 5) (x : T5r) : ∃ q : T5r, lp (fun z : Int64 × Int32 × Int64 × Int64 × (Nat → Int32) × (Nat → Int32) × (Nat → Int32) => m_X10_likely_l110 s (nI l) (nI p) (nI t) (nI m) z.1 z.2.1 z.2.2.1 z.2.2.2.1 z.2.2.2.2.1 z.2.2.2.2.2.1 z.2.2.2.2.2.2) fu ((0 : Int64), (0 : Int32), x) = some (J (hit A l p t m (2 ^ m) : Int), q) := by
  have n7 := hok.1.1
  have m5 : 2 ^ m ≤ 32 := Nat.pow_le_pow_right (n := 2) (by decide) hm
  have ib : inb (nI p) 7 = true := inb_nI (by omega) (by decide)
  have cl : (nI p).toNatClampNeg = p := nI_clamp (by omega)
  obtain ⟨⟨a, q⟩, e, q1⟩ := lp_invf (f := fun z : Int64 × Int32 × Int64 × Int64 × (Nat → Int32) × (Nat → Int32) × (Nat → Int32) => m_X10_likely_l110 s (nI l) (nI p) (nI t) (nI m) z.1 z.2.1 z.2.2.1 z.2.2.2.1 z.2.2.2.2.1 z.2.2.2.2.2.1 z.2.2.2.2.2.2) (I := fun d z => ∃ g x, g ≤ 2 ^ m ∧ d = 2 ^ m - g ∧ z = (J (hit A l p t m g : Int), nI g, x)) (Q := fun y => y.1 = J (hit A l p t m (2 ^ m) : Int)) (d := 2 ^ m) (s := ((0 : Int64), (0 : Int32), x)) (by
    rintro d z ⟨g, x, hg, hd, rfl⟩
    rcases Nat.lt_or_ge g (2 ^ m) with q | q
    · have hx : S10 (stM s x) A := S10_mk h (by dsimp only [c10])
      obtain ⟨b1, b2⟩ := there_bits hok g
      obtain ⟨y, y1, y2⟩ := values10 hx hok hl b1 b2
      have y2' : V10 (stM (stM s x) y) A (vU A l g) (vD A l g) := y2
      have u1 : y.2.2.2.1 p = nI (vU A l g p) := y2'.2.1 p hp
      have u2 : y.2.2.2.2 p = nI (vD A l g p) := y2'.2.2 p hp
      have mk : m_X10_mark (stM s y) (nI p) = some (nI (mkA A p)) := mark10 (S10_mk h (by dsimp only [c10])) hok hp
      refine Or.inl ⟨2 ^ m - (g + 1), (J (hit A l p t m (g + 1) : Int), nI (g + 1), y), ?_, by omega, g + 1, y, by omega, rfl, rfl⟩
      show m_X10_likely_l110 s (nI l) (nI p) (nI t) (nI m) (J (hit A l p t m g : Int)) (nI g) x.1 x.2.1 x.2.2.1 x.2.2.2.1 x.2.2.2.2 = _
      unfold m_X10_likely_l110
      rw [nI_shl1 _ (by omega), if_neg (nI_ge q (by omega)), ways10 h1 h2 hm (by omega), Option.bind_some, all10 (s := stM s x) hx hok, Option.bind_some, nI_dif, y1, Option.bind_some, if_pos ib, mk, Option.bind_some, if_pos ib, cl, u1, u2, nI_1, J_add]
      have hs : hit A l p t m (g + 1) = hit A l p t m g + (if nI (vU A l g p) = nI (mkA A p) ∧ nI (vD A l g p) = 1 then wy t g m else 0) := rfl
      rw [hs]
      by_cases c : nI (vU A l g p) = nI (mkA A p)
      · by_cases c2 : nI (vD A l g p) = 1
        · rw [if_pos c, if_pos c2, if_pos ⟨c, c2⟩, Int.natCast_add]
        · rw [if_pos c, if_neg c2, if_neg (fun x => c2 x.2), Int64.add_zero]
          rfl
      · rw [if_neg c, if_neg (fun x => c x.1), Int64.add_zero]
        rfl
    · refine Or.inr ⟨(J (hit A l p t m g : Int), x), ?_, by rw [show g = 2 ^ m by omega]⟩
      show m_X10_likely_l110 s (nI l) (nI p) (nI t) (nI m) (J (hit A l p t m g : Int)) (nI g) x.1 x.2.1 x.2.2.1 x.2.2.2.1 x.2.2.2.2 = _
      unfold m_X10_likely_l110
      rw [nI_shl1 _ (by omega), if_pos (nI_le q (by omega))]) ⟨0, x, Nat.zero_le _, rfl, rfl⟩ (by omega)
  have q1 : a = J (hit A l p t m (2 ^ m) : Int) := q1
  rw [q1] at e
  exact ⟨q, e⟩
