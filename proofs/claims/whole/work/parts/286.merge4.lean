/-! BLOCKS become one: the class -/
abbrev q4 (s : T4) (f1 f2 f3 : Nat → Int32) (n m : Int32) : T4 := u4_mergesDone m (u4_blocksNow n (u4_bottoms f3 (u4_tops f2 (u4_blocks f1 s))))
def allB (A : Sh) (c : Nat) (g : Nat → Nat) : Prop := c ≤ 7 ∧ ∀ i, i < c → g i ≠ 0 ∧ g i < 2 ^ hN A
theorem BKS_all {A : Sh} {rk : Nat → Nat} {c : Nat} {g x : Nat → Nat} (h : BKS A rk c g x) : allB A c g := ⟨h.1, fun i hi => ⟨(h.2.2.2.2 i hi).1, (h.2.2.2.2 i hi).2.1⟩⟩
def L4 (s : T4) (A : Sh) (l : Nat) : Prop := SV8 (p4_values s) A ∧ p4_loss s = nI l
theorem measure4 {s : T4} {A : Sh} {l c : Nat} {g : Nat → Nat} (h : L4 s A l) (hok : okS A) (hl : l < 2) (ab : allB A c g) (e : Eqn (p4_blocks s) g c) {i : Nat} (hi : i < c) : m_X4_measure s (nI i) = some (upd (p4_tops s) i (nI (nuU A l (g i))), upd (p4_bottoms s) i (nI (nuD A l (g i)))) := by
  obtain ⟨a1, a2⟩ := ab.2 i hi
  have c7 := ab.1
  unfold m_X4_measure
  rw [get_in (by omega) (by decide), Option.bind_some, e i hi, top4 h.1 hok hl h.2 a2 a1, Option.bind_some, set_in (by omega) (by decide), Option.bind_some, Option.bind_some, bottom4 (s := u4_tops (upd (p4_tops s) i (nI (nuU A l (g i)))) s) h.1 hok hl h.2 a2, Option.bind_some, set_in (by omega) (by decide), Option.bind_some]
def tB (A : Sh) (l : Nat) (g : Nat → Nat) (i : Nat) : Nat := nuU A l (g i)
def bB (A : Sh) (l : Nat) (g : Nat → Nat) (i : Nat) : Nat := nuD A l (g i)
theorem bad_in {A : Sh} (hok : okS A) {l c : Nat} {g : Nat → Nat} (ab : allB A c g) {i j : Nat} (hi : i < c) (hj : j < c) : tB A l g i * bB A l g j ≤ 14868 * 126 := by
  obtain ⟨a1, a2⟩ := ab.2 i hi
  obtain ⟨b1, b2⟩ := ab.2 j hj
  obtain ⟨c1, c2, c3⟩ := nu_in hok l a2 a1
  obtain ⟨d1, d2, d3⟩ := nu_in hok l b2 b1
  exact Nat.mul_le_mul (show nuU A l (g i) ≤ 14868 by omega) d2
def fwI (A : Sh) (l c : Nat) (g : Nat → Nat) : Int32 := if fw (bad A l g) (c - 1) < c - 1 then nI (fw (bad A l g) (c - 1)) else -1
theorem first4 {s : T4} {A : Sh} {l c : Nat} {g : Nat → Nat} (hok : okS A) (ab : allB A c g) (e0 : p4_blocksNow s = nI c) (e2 : Eqn (p4_tops s) (tB A l g) c) (e3 : Eqn (p4_bottoms s) (bB A l g) c) : m_X4_firstToMerge s = some (fwI A l c g) := by
  have c7 := ab.1
  obtain ⟨r, e, q⟩ := lp_invf (f := fun z : Int32 => m_X4_firstToMerge_l2 s z) (I := fun d z => ∃ k, (k = 0 ∨ k + 1 ≤ c) ∧ d = c - k ∧ z = nI k ∧ ∀ j, j < k → bad A l g j = false) (Q := fun r => (r = .inl (nI (fw (bad A l g) (c - 1))) ∧ fw (bad A l g) (c - 1) < c - 1) ∨ (r = .inr () ∧ fw (bad A l g) (c - 1) = c - 1)) (d := c) (s := 0) (by
    rintro d z ⟨k, hk, hd, rfl, no⟩
    rcases Nat.lt_or_ge (k + 1) c with w | w
    · have go : m_X4_firstToMerge_l2 s (nI k) = if bad A l g k = true then some (.inr (.inl (nI k))) else some (.inl (nI (k + 1))) := by
        have b1 := bad_in hok (l := l) ab (i := k) (j := k + 1) (by omega) w
        have b2 := bad_in hok (l := l) ab (i := k + 1) (j := k) w (by omega)
        unfold m_X4_firstToMerge_l2
        rw [e0, nI_1, if_neg (nI_ge w (by omega)), get_in (by omega) (by decide), Option.bind_some, get_in (by omega) (by decide), Option.bind_some, get_in (by omega) (by decide), Option.bind_some, get_in (by omega) (by decide), Option.bind_some, e2 k (by omega), e2 (k + 1) w, e3 k (by omega), e3 (k + 1) w, nI_mul, nI_mul]
        by_cases c : bad A l g k = true
        · have := of_decide_eq_true c
          unfold tB bB
          rw [if_pos c, if_neg (fun x => by
            have := (nI_lti (by unfold tB bB at b1; omega) (by unfold tB bB at b2; omega)).mp x; omega)]
        · have : ¬ nuU A l (g (k + 1)) * nuD A l (g k) ≤ nuU A l (g k) * nuD A l (g (k + 1)) := fun x => c (decide_eq_true x)
          unfold tB bB
          rw [if_neg c, if_pos ((nI_lti (by unfold tB bB at b1; omega) (by unfold tB bB at b2; omega)).mpr (by omega))]
      rw [go]
      by_cases c : bad A l g k = true
      · rw [if_pos c]
        exact Or.inr ⟨_, rfl, Or.inl (by rw [fw_at c no (k := _ - 1) (by omega)]; exact ⟨rfl, by omega⟩)⟩
      · rw [if_neg c]
        refine Or.inl ⟨_, nI (k + 1), rfl, by omega, k + 1, Or.inr (by omega), rfl, rfl, fun j hj => ?_⟩
        rcases Nat.lt_or_ge j k with y | y
        · exact no j y
        · rw [show j = k by omega]; simpa using c
    · refine Or.inr ⟨.inr (), ?_, Or.inr ⟨rfl, fw_all (fun j hj => no j (by omega))⟩⟩
      unfold m_X4_firstToMerge_l2
      rw [e0, nI_1, if_pos (nI_le w (by omega))]) ⟨0, Or.inl rfl, rfl, rfl, fun j hj => absurd hj (Nat.not_lt_zero j)⟩ (by omega)
  unfold m_X4_firstToMerge fwI
  rw [e, Option.bind_some]
  rcases q with ⟨rfl, q⟩ | ⟨rfl, q⟩
  · rw [if_pos q]
  · rw [if_neg (by omega)]
set_option maxRecDepth 100000 in
theorem add_or : ∀ a, a < 128 → ∀ b, b < 128 → a &&& b = 0 → a + b = a ||| b := by decide +kernel
theorem BKS_dis {A : Sh} {rk : Nat → Nat} {c : Nat} {g x : Nat → Nat} (h : BKS A rk c g x) {i : Nat} (hi : i + 1 < c) : g i &&& g (i + 1) = 0 := by
  obtain ⟨a1, a2, a3⟩ := h.2.2.2.2 i (by omega)
  obtain ⟨b1, b2, b3⟩ := h.2.2.2.2 (i + 1) hi
  refine Classical.byContradiction fun n => ?_
  obtain ⟨p, hp⟩ := bit_of_ne0 n
  obtain ⟨p1, p2⟩ := and_bit.mp hp
  have w := bit_lt a2 p1
  have := (a3 p w).mp p1
  have := (b3 p w).mp p2
  omega
theorem mergeNext4 {s : T4} {A : Sh} {l c : Nat} {g x : Nat → Nat} {rk : Nat → Nat} (hok : okS A) (bk : BKS A rk c g x) {f1 f2 f3 : Nat → Int32} {m : Nat} (e1 : Eqn f1 g c) (e2 : Eqn f2 (tB A l g) c) (e3 : Eqn f3 (bB A l g) c) {i : Nat} (hi : i + 1 < c) : ∃ r1 r2 r3, m_X4_mergeWithNext (q4 s f1 f2 f3 (nI c) (nI m)) (nI i) = some (r1, r2, r3, nI (c - 1), nI (m + 1)) ∧ Eqn r1 (mgG g i) (c - 1) ∧ (∀ j, j < c - 1 → j ≠ i → r2 j = nI (tB A l (mgG g i) j)) ∧ ∀ j, j < c - 1 → j ≠ i → r3 j = nI (bB A l (mgG g i) j) := by
  have c7 := bk.1
  have p7 := pow_le7 hok.1.1
  have gi := (bk.2.2.2.2 i (by omega)).2.1
  have gj := (bk.2.2.2.2 (i + 1) hi).2.1
  obtain ⟨r1, a1, b1⟩ := removed (N := 7) (p := i + 1) (f := upd f1 i (f1 i + f1 (i + 1))) (by omega) (by decide)
  obtain ⟨r2, a2, b2⟩ := removed (N := 7) (p := i + 1) (f := f2) (by omega) (by decide)
  obtain ⟨r3, a3, b3⟩ := removed (N := 7) (p := i + 1) (f := f3) (by omega) (by decide)
  refine ⟨r1, r2, r3, ?_, fun j hj => ?_, fun j hj hn => ?_, fun j hj hn => ?_⟩
  · unfold m_X4_mergeWithNext
    show (m_X2_get 7 f1 (nI i + 1)).bind (fun x1 => (m_X2_add 7 f1 (nI i) x1).bind (fun x2 => (m_X2_removeAt 7 x2 (nI i + 1)).bind (fun x3 => (m_X2_removeAt 7 f2 (nI i + 1)).bind (fun x4 => (m_X2_removeAt 7 f3 (nI i + 1)).bind (fun x5 => some (x3, x4, x5, nI c - 1, nI m + 1)))))) = _
    rw [nI_1, get_in (by omega) (by decide), Option.bind_some, add_in (by omega) (by decide), Option.bind_some, a1, Option.bind_some, a2, Option.bind_some, a3, Option.bind_some, nI_1, show (1 : Int32) = nI 1 from rfl, nI_sub (by omega)]
  · rw [b1 j (by omega)]
    unfold mgG
    rcases Nat.lt_trichotomy j i with q | q | q
    · rw [if_pos (by omega), if_pos q, upd_ne (by omega), e1 j (by omega)]
    · rw [if_pos (by omega), if_neg (by omega), if_pos q, q, upd_at, e1 i (by omega), e1 (i + 1) hi, nI_add, add_or _ (by omega) _ (by omega) (BKS_dis bk hi)]
    · rw [if_neg (by omega), if_neg (by omega), if_neg (by omega), upd_ne (by omega), e1 (j + 1) (by omega)]
  · rw [b2 j (by omega)]
    unfold tB mgG
    rcases Nat.lt_trichotomy j i with q | q | q
    · rw [if_pos (by omega), if_pos q, e2 j (by omega)]; rfl
    · exact absurd q hn
    · rw [if_neg (by omega), if_neg (by omega), if_neg (by omega), e2 (j + 1) (by omega)]; rfl
  · rw [b3 j (by omega)]
    unfold bB mgG
    rcases Nat.lt_trichotomy j i with q | q | q
    · rw [if_pos (by omega), if_pos q, e3 j (by omega)]; rfl
    · exact absurd q hn
    · rw [if_neg (by omega), if_neg (by omega), if_neg (by omega), e3 (j + 1) (by omega)]; rfl
theorem Eqn_fill {f : Nat → Int32} {g : Nat → Nat} {n i : Nat} (h : ∀ j, j < n → j ≠ i → f j = nI (g j)) : Eqn (upd f i (nI (g i))) g n := fun j hj => by
  by_cases q : j = i
  · rw [q, upd_at]
  · rw [upd_ne q]; exact h j hj q
abbrev mF4 (s : T4) : Int32 × Int32 × (Nat → Int32) × (Nat → Int32) × (Nat → Int32) × Int32 × Int32 → Option ((Int32 × Int32 × (Nat → Int32) × (Nat → Int32) × (Nat → Int32) × Int32 × Int32) ⊕ ((Nat → Int32) × (Nat → Int32) × (Nat → Int32) × Int32 × Int32)) := fun z => m_X4_mergeAll_l28 s z.1 z.2.1 z.2.2.1 z.2.2.2.1 z.2.2.2.2.1 z.2.2.2.2.2.1 z.2.2.2.2.2.2
theorem mergeLoop4 {s : T4} {A : Sh} {l : Nat} {rk : Nat → Nat} (h : L4 s A l) (hok : okS A) (hl : l < 2) : ∀ (k c : Nat) (g x : Nat → Nat) (t m fuel : Nat) (f1 f2 f3 : Nat → Int32), BKS A rk c g x → c ≤ k + 1 → t + c ≤ 8 → k < fuel → Eqn f1 g c → Eqn f2 (tB A l g) c → Eqn f3 (bB A l g) c → ∃ r1 r2 r3, lp (mF4 s) fuel (fwI A l c g, nI t, f1, f2, f3, nI c, nI m) = some (r1, r2, r3, nI (mgo A l k c g x).1, nI (m + (c - (mgo A l k c g x).1))) ∧ Eqn r1 (mgo A l k c g x).2.1 (mgo A l k c g x).1 ∧ Eqn r2 (tB A l (mgo A l k c g x).2.1) (mgo A l k c g x).1 ∧ Eqn r3 (bB A l (mgo A l k c g x).2.1) (mgo A l k c g x).1 := by
  have stop : ∀ (c : Nat) (g : Nat → Nat) (t m : Nat) (f1 f2 f3 : Nat → Int32), ¬ fw (bad A l g) (c - 1) < c - 1 → t ≤ 8 → mF4 s (fwI A l c g, nI t, f1, f2, f3, nI c, nI m) = some (.inr (f1, f2, f3, nI c, nI m)) := by
    intro c g t m f1 f2 f3 n ht
    show m_X4_mergeAll_l28 s (fwI A l c g) (nI t) f1 f2 f3 (nI c) (nI m) = _
    unfold m_X4_mergeAll_l28 fwI
    rw [if_neg n]
    by_cases q : (7 : Int32) ≤ nI t
    · rw [if_pos q]
    · rw [if_neg q, if_pos (by decide)]
  intro k
  induction k with
  | zero =>
    intro c g x t m fuel f1 f2 f3 bk hc ht hf e1 e2 e3
    obtain ⟨n, rfl⟩ : ∃ n, fuel = n + 1 := ⟨fuel - 1, by omega⟩
    refine ⟨f1, f2, f3, ?_, e1, e2, e3⟩
    rw [lp_inr (stop c g t m f1 f2 f3 (by omega) (by omega))]
    show _ = some (f1, f2, f3, nI c, nI (m + (c - c)))
    rw [Nat.sub_self, Nat.add_zero]
  | succ k ih =>
    intro c g x t m fuel f1 f2 f3 bk hc ht hf e1 e2 e3
    obtain ⟨n, rfl⟩ : ∃ n, fuel = n + 1 := ⟨fuel - 1, by omega⟩
    rw [mgo]
    by_cases q : fw (bad A l g) (c - 1) < c - 1
    · rw [if_pos q]
      generalize hi : fw (bad A l g) (c - 1) = i at *
      have bk' := BKS_mg bk (show i + 1 < c by omega)
      have fe : fwI A l c g = nI i := by unfold fwI; rw [hi, if_pos q]
      obtain ⟨r1, r2, r3, g1, g2, g3, g4⟩ := mergeNext4 (s := s) (l := l) (m := m) hok bk e1 e2 e3 (show i + 1 < c by omega)
      have t2 := Eqn_fill g3
      have t3 := Eqn_fill g4
      have me := measure4 (s := q4 s r1 r2 r3 (nI (c - 1)) (nI (m + 1))) h hok hl (BKS_all bk') g2 (show i < c - 1 by omega)
      have fi := first4 (s := q4 s r1 (upd r2 i (nI (tB A l (mgG g i) i))) (upd r3 i (nI (bB A l (mgG g i) i))) (nI (c - 1)) (nI (m + 1))) hok (BKS_all bk') rfl t2 t3
      have st : mF4 s (fwI A l c g, nI t, f1, f2, f3, nI c, nI m) = some (.inl (fwI A l (c - 1) (mgG g i), nI (t + 1), r1, upd r2 i (nI (tB A l (mgG g i) i)), upd r3 i (nI (bB A l (mgG g i) i)), nI (c - 1), nI (m + 1))) := by
        show m_X4_mergeAll_l28 s (fwI A l c g) (nI t) f1 f2 f3 (nI c) (nI m) = _
        unfold m_X4_mergeAll_l28
        rw [fe, if_neg (show ¬ (7 : Int32) ≤ nI t from nI_ge (b := 7) (by omega) (by omega)), if_neg (nI_pos (by omega)), g1, Option.bind_some]
        have me' : m_X4_measure (q4 s r1 r2 r3 (nI (c - 1)) (nI (m + 1))) (nI i) = some (upd r2 i (nI (tB A l (mgG g i) i)), upd r3 i (nI (bB A l (mgG g i) i))) := me
        rw [me', Option.bind_some, fi, Option.bind_some, nI_1]
      rw [lp_inl st]
      obtain ⟨w1, w2, w3, y1, y2, y3, y4⟩ := ih (c - 1) (mgG g i) (mgX x i) (t + 1) (m + 1) n _ _ _ bk' (by omega) (by omega) (by omega) g2 t2 t3
      refine ⟨w1, w2, w3, ?_, y2, y3, y4⟩
      have le := (mgo_ok l k (c - 1) (mgG g i) (mgX x i) bk').2
      rw [y1, show m + 1 + (c - 1 - (mgo A l k (c - 1) (mgG g i) (mgX x i)).1) = m + (c - (mgo A l k (c - 1) (mgG g i) (mgX x i)).1) by omega]
    · rw [if_neg q]
      refine ⟨f1, f2, f3, ?_, e1, e2, e3⟩
      rw [lp_inr (stop c g t m f1 f2 f3 q (by omega))]
      show _ = some (f1, f2, f3, nI c, nI (m + (c - c)))
      rw [Nat.sub_self, Nat.add_zero]
theorem mergeAll4 {s : T4} {A : Sh} {l c : Nat} {g x : Nat → Nat} {rk : Nat → Nat} (h : L4 s A l) (hok : okS A) (hl : l < 2) (bk : BKS A rk c g x) (e0 : p4_blocksNow s = nI c) (e1 : Eqn (p4_blocks s) g c) (em : p4_mergesDone s = 0) : ∃ r1 r2 r3, m_X4_mergeAll s = some (r1, r2, r3, nI (mgo A l 7 c g x).1, nI (c - (mgo A l 7 c g x).1)) ∧ Eqn r1 (mgo A l 7 c g x).2.1 (mgo A l 7 c g x).1 ∧ Eqn r2 (tB A l (mgo A l 7 c g x).2.1) (mgo A l 7 c g x).1 ∧ Eqn r3 (bB A l (mgo A l 7 c g x).2.1) (mgo A l 7 c g x).1 := by
  have c7 := bk.1
  obtain ⟨r, e, f2, f3, rfl, q2, q3⟩ := lp_invf (f := fun z : Int32 × (Nat → Int32) × (Nat → Int32) => m_X4_mergeAll_l2 s z.1 z.2.1 z.2.2) (I := fun d z => ∃ k f2 f3, k ≤ c ∧ d = c - k ∧ z = (nI k, f2, f3) ∧ Eqn f2 (tB A l g) k ∧ Eqn f3 (bB A l g) k) (Q := fun r => ∃ f2 f3, r = (f2, f3) ∧ Eqn f2 (tB A l g) c ∧ Eqn f3 (bB A l g) c) (d := c) (s := ((0 : Int32), p4_tops s, p4_bottoms s)) (by
    rintro d z ⟨k, f2, f3, hk, hd, rfl, e2, e3⟩
    rcases Nat.lt_or_ge k c with w | w
    · have me : m_X4_measure (u4_bottoms f3 (u4_tops f2 s)) (nI k) = some (upd f2 k (nI (nuU A l (g k))), upd f3 k (nI (nuD A l (g k)))) := measure4 (s := u4_bottoms f3 (u4_tops f2 s)) h hok hl (BKS_all bk) e1 w
      refine Or.inl ⟨c - (k + 1), (nI (k + 1), upd f2 k (nI (nuU A l (g k))), upd f3 k (nI (nuD A l (g k)))), ?_, by omega, k + 1, _, _, by omega, rfl, rfl, Eqn_congr (Eqn_push e2 (v := tB A l g k) rfl) (fun j hj => by by_cases y : j = k <;> simp [y]), Eqn_congr (Eqn_push e3 (v := bB A l g k) rfl) (fun j hj => by by_cases y : j = k <;> simp [y])⟩
      show m_X4_mergeAll_l2 s (nI k) f2 f3 = _
      unfold m_X4_mergeAll_l2
      rw [e0, if_neg (nI_ge w (by omega)), me, Option.bind_some, nI_1]
    · refine Or.inr ⟨(f2, f3), ?_, f2, f3, rfl, Eqn_less e2 w, Eqn_less e3 w⟩
      show m_X4_mergeAll_l2 s (nI k) f2 f3 = _
      unfold m_X4_mergeAll_l2
      rw [e0, if_pos (nI_le w (by omega))]) ⟨0, _, _, Nat.zero_le _, rfl, rfl, fun i hi => absurd hi (Nat.not_lt_zero i), fun i hi => absurd hi (Nat.not_lt_zero i)⟩ (by omega)
  obtain ⟨r1, r2, r3, y1, y2, y3, y4⟩ := mergeLoop4 h hok hl 7 c g x 0 0 fu (p4_blocks s) f2 f3 bk (by omega) (by omega) (by decide) e1 q2 q3
  refine ⟨r1, r2, r3, ?_, y2, y3, y4⟩
  have fi : m_X4_firstToMerge (u4_bottoms f3 (u4_tops f2 s)) = some (fwI A l c g) := first4 (s := u4_bottoms f3 (u4_tops f2 s)) hok (BKS_all bk) e0 q2 q3
  rw [Nat.zero_add] at y1
  have y1' : lp (fun z : Int32 × Int32 × (Nat → Int32) × (Nat → Int32) × (Nat → Int32) × Int32 × Int32 => m_X4_mergeAll_l28 s z.1 z.2.1 z.2.2.1 z.2.2.2.1 z.2.2.2.2.1 z.2.2.2.2.2.1 z.2.2.2.2.2.2) fu (fwI A l c g, (0 : Int32), p4_blocks s, f2, f3, nI c, (0 : Int32)) = _ := y1
  unfold m_X4_mergeAll
  rw [e, Option.bind_some, fi, Option.bind_some, e0, em, y1', Option.bind_some]
