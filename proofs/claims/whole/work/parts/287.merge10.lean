/-! BLOCKS become one: the reference; the class's work on THE LINE up to its values -/
abbrev q10 (s : T10) (f : Nat → Int32) (n m a b : Int32) : T10 := u10_merged m (u10_blocks n (u10_block f (u10_numberDown b (u10_numberUp a s))))
theorem S10_q {s : T10} {A : Sh} (h : S10 s A) (f : Nat → Int32) (n m a b : Int32) : S10 (q10 s f n m a b) A := S10_mk h (by dsimp only [c10])
def fwR (A : Sh) (l c : Nat) (g : Nat → Nat) : Int32 := if fw (bad A l g) (c - 1) < c - 1 then nI (fw (bad A l g) (c - 1)) else -9
theorem first10 {s : T10} {A : Sh} {l c : Nat} {g : Nat → Nat} (h : S10 s A) (hok : okS A) (hl : l < 2) (ab : allB A c g) (e0 : p10_blocks s = nI c) (e1 : Eqn (p10_block s) g c) : ∃ a b, m_X10_firstWrong s (nI l) = some (fwR A l c g, a, b) := by
  have c7 := ab.1
  obtain ⟨r, e, q⟩ := lp_invf (f := fun z : Int32 × Int32 × Int32 => m_X10_firstWrong_l2 s (nI l) z.1 z.2.1 z.2.2) (I := fun d z => ∃ k a b, (k = 0 ∨ k + 1 ≤ c) ∧ d = c - k ∧ z = (nI k, a, b) ∧ ∀ j, j < k → bad A l g j = false) (Q := fun r => ∃ a b, (r = .inl (nI (fw (bad A l g) (c - 1)), a, b) ∧ fw (bad A l g) (c - 1) < c - 1) ∨ (r = .inr (a, b) ∧ fw (bad A l g) (c - 1) = c - 1)) (d := c) (s := ((0 : Int32), p10_numberUp s, p10_numberDown s)) (by
    rintro d z ⟨k, a, b, hk, hd, rfl, no⟩
    rcases Nat.lt_or_ge (k + 1) c with w | w
    · obtain ⟨a1, a2⟩ := ab.2 k (by omega)
      obtain ⟨b1, b2⟩ := ab.2 (k + 1) w
      have y1 := bad_in hok (l := l) ab (i := k) (j := k + 1) (by omega) w
      have y2 := bad_in hok (l := l) ab (i := k + 1) (j := k) w (by omega)
      obtain ⟨v1, v2, v3⟩ := nu_in hok l a2 a1
      obtain ⟨w1, w2, w3⟩ := nu_in hok l b2 b1
      have go : m_X10_firstWrong_l2 s (nI l) (nI k) a b = if bad A l g k = true then some (.inr (.inl (nI k, nI (nuU A l (g (k + 1))), nI (nuD A l (g (k + 1)))))) else some (.inl (nI (k + 1), nI (nuU A l (g (k + 1))), nI (nuD A l (g (k + 1))))) := by
        unfold m_X10_firstWrong_l2
        rw [e0, nI_1, if_neg (nI_ge w (by omega)), if_pos (inb_nI (by omega) (by decide)), nI_clamp (by omega), nI_clamp (by omega), e1 k (by omega), e1 (k + 1) w, number10 (S10_mk h (by dsimp only [c10])) hok hl a2 a1, Option.bind_some, if_pos (inb_nI (by omega) (by decide)), number10 (S10_mk h (by dsimp only [c10])) hok hl b2 b1, Option.bind_some]
        simp only
        rw [nI_64 (k := nuU A l (g k)) (by omega), nI_64 (k := nuD A l (g (k + 1))) (by omega), nI_64 (k := nuU A l (g (k + 1))) (by omega), nI_64 (k := nuD A l (g k)) (by omega), J_mul, J_mul, ← Int.natCast_mul, ← Int.natCast_mul]
        unfold tB bB at y1 y2
        by_cases c : bad A l g k = true
        · have := of_decide_eq_true c
          rw [if_pos c, if_neg (fun x => by have := (J_nlt (by omega) (by omega)).mp x; omega)]
        · have : ¬ nuU A l (g (k + 1)) * nuD A l (g k) ≤ nuU A l (g k) * nuD A l (g (k + 1)) := fun x => c (decide_eq_true x)
          rw [if_neg c, if_pos ((J_nlt (by omega) (by omega)).mpr (by omega))]
      rw [go]
      by_cases c : bad A l g k = true
      · rw [if_pos c]
        exact Or.inr ⟨_, rfl, _, _, Or.inl (by rw [fw_at c no (k := _ - 1) (by omega)]; exact ⟨rfl, by omega⟩)⟩
      · rw [if_neg c]
        refine Or.inl ⟨_, _, rfl, by omega, k + 1, _, _, Or.inr (by omega), rfl, rfl, fun j hj => ?_⟩
        rcases Nat.lt_or_ge j k with y | y
        · exact no j y
        · rw [show j = k by omega]; simpa using c
    · refine Or.inr ⟨.inr (a, b), ?_, a, b, Or.inr ⟨rfl, fw_all (fun j hj => no j (by omega))⟩⟩
      show m_X10_firstWrong_l2 s (nI l) (nI k) a b = _
      unfold m_X10_firstWrong_l2
      rw [e0, nI_1, if_pos (nI_le w (by omega))]) ⟨0, _, _, Or.inl rfl, rfl, rfl, fun j hj => absurd hj (Nat.not_lt_zero j)⟩ (by omega)
  obtain ⟨a, b, q⟩ := q
  refine ⟨a, b, ?_⟩
  unfold m_X10_firstWrong fwR
  rw [e, Option.bind_some]
  rcases q with ⟨rfl, q⟩ | ⟨rfl, q⟩
  · rw [if_pos q]
  · rw [if_neg (by omega)]
theorem shift10 {c i : Nat} (c7 : c ≤ 7) (hi : i + 1 < c) (f : Nat → Int32) : ∃ r, lp (fun z : Int32 × (Nat → Int32) => m_X10_lines_l52_2 (nI c) z.1 z.2) fu (nI (i + 1), f) = some r ∧ ∀ j, j < c - 1 → r j = if j < i + 1 then f j else f (j + 1) := by
  refine ⟨fun j => if i + 1 ≤ j ∧ j < i + 1 + (c - 2 - i) then f (j + 1) else f j, ?_, fun j hj => ?_⟩
  · refine lp_for (fun k => (nI (i + 1 + k), fun j => if i + 1 ≤ j ∧ j < i + 1 + k then f (j + 1) else f j)) (c - 2 - i) (fun k hk => ?_) ?_ (by omega) ?_
    · simp only [m_X10_lines_l52_2]
      rw [show (1 : Int32) = nI 1 from rfl, nI_sub (show 1 ≤ c by omega), if_neg (nI_ge (show i + 1 + k < c - 1 by omega) (by omega)), nI_add, if_pos (inb_nI (by omega) (by decide)), if_pos (inb_nI (by omega) (by decide)), nI_clamp (by omega), nI_clamp (by omega), show i + 1 + (k + 1) = i + 1 + k + 1 by omega]
      congr 4
      funext j
      by_cases e : j = i + 1 + k
      · rw [e, upd_at, if_neg (by omega), if_pos (by omega)]
      · rw [upd_ne e]
        by_cases e2 : i + 1 ≤ j ∧ j < i + 1 + k
        · rw [if_pos e2, if_pos (by omega)]
        · rw [if_neg e2, if_neg (by omega)]
    · simp only [m_X10_lines_l52_2]
      rw [show (1 : Int32) = nI 1 from rfl, nI_sub (show 1 ≤ c by omega), if_pos (nI_le (show c - 1 ≤ i + 1 + (c - 2 - i) by omega) (by omega))]
    · congr 1
      funext j
      rw [if_neg (by omega)]
  · show (if i + 1 ≤ j ∧ j < i + 1 + (c - 2 - i) then f (j + 1) else f j) = _
    by_cases q : j < i + 1
    · rw [if_pos q, if_neg (by omega)]
    · rw [if_neg q, if_pos (by omega)]
abbrev mF10 (s : T10) (p : Int32) : Int32 × Int32 × Int32 × (Nat → Int32) × Int32 × Int32 → Option ((Int32 × Int32 × Int32 × (Nat → Int32) × Int32 × Int32) ⊕ (Int32 × Int32 × (Nat → Int32) × Int32 × Int32)) := fun z => m_X10_lines_l15 s p z.1 z.2.1 z.2.2.1 z.2.2.2.1 z.2.2.2.2.1 z.2.2.2.2.2
theorem mergeLoop10 {s : T10} {A : Sh} {l : Nat} {rk : Nat → Nat} (h : S10 s A) (hok : okS A) (hl : l < 2) : ∀ (k c : Nat) (g x : Nat → Nat) (m fuel : Nat) (f : Nat → Int32) (a b : Int32), BKS A rk c g x → c ≤ k + 1 → k < fuel → Eqn f g c → ∃ r a' b', lp (mF10 s (nI l)) fuel (fwR A l c g, a, b, f, nI c, nI m) = some (a', b', r, nI (mgo A l k c g x).1, nI (m + (c - (mgo A l k c g x).1))) ∧ Eqn r (mgo A l k c g x).2.1 (mgo A l k c g x).1 := by
  have stop : ∀ (c : Nat) (g : Nat → Nat) (m : Nat) (f : Nat → Int32) (a b : Int32), ¬ fw (bad A l g) (c - 1) < c - 1 → mF10 s (nI l) (fwR A l c g, a, b, f, nI c, nI m) = some (.inr (a, b, f, nI c, nI m)) := by
    intro c g m f a b n
    show m_X10_lines_l15 s (nI l) (fwR A l c g) a b f (nI c) (nI m) = _
    unfold m_X10_lines_l15 fwR
    rw [if_neg n, if_pos rfl]
  intro k
  induction k with
  | zero =>
    intro c g x m fuel f a b bk hc hf e1
    obtain ⟨n, rfl⟩ : ∃ n, fuel = n + 1 := ⟨fuel - 1, by omega⟩
    refine ⟨f, a, b, ?_, e1⟩
    rw [lp_inr (stop c g m f a b (by omega))]
    show _ = some (a, b, f, nI c, nI (m + (c - c)))
    rw [Nat.sub_self, Nat.add_zero]
  | succ k ih =>
    intro c g x m fuel f a b bk hc hf e1
    have c7 := bk.1
    obtain ⟨n, rfl⟩ : ∃ n, fuel = n + 1 := ⟨fuel - 1, by omega⟩
    rw [mgo]
    by_cases q : fw (bad A l g) (c - 1) < c - 1
    · rw [if_pos q]
      generalize hi : fw (bad A l g) (c - 1) = i at *
      have bk' := BKS_mg bk (show i + 1 < c by omega)
      have fe : fwR A l c g = nI i := by unfold fwR; rw [hi, if_pos q]
      have n9 : ∀ i, i < 7 → ¬ nI i = (-9 : Int32) := by decide +kernel
      obtain ⟨r, r1, r2⟩ := shift10 c7 (show i + 1 < c by omega) (upd f i (f i ||| f (i + 1)))
      have g2 : Eqn r (mgG g i) (c - 1) := fun j hj => by
        rw [r2 j hj]
        unfold mgG
        rcases Nat.lt_trichotomy j i with q | q | q
        · rw [if_pos (by omega), if_pos q, upd_ne (by omega), e1 j (by omega)]
        · rw [if_pos (by omega), if_neg (by omega), if_pos q, q, upd_at, e1 i (by omega), e1 (i + 1) (by omega), nI_or]
        · rw [if_neg (by omega), if_neg (by omega), if_neg (by omega), upd_ne (by omega), e1 (j + 1) (by omega)]
      obtain ⟨a', b', fi⟩ := first10 (s := q10 s r (nI (c - 1)) (nI (m + 1)) a b) (S10_q h _ _ _ _ _) hok hl (BKS_all bk') rfl g2
      have st : mF10 s (nI l) (fwR A l c g, a, b, f, nI c, nI m) = some (.inl (fwR A l (c - 1) (mgG g i), a', b', r, nI (c - 1), nI (m + 1))) := by
        show m_X10_lines_l15 s (nI l) (fwR A l c g) a b f (nI c) (nI m) = _
        unfold m_X10_lines_l15
        rw [fe, if_neg (n9 i (by omega)), if_pos (inb_nI (by omega) (by decide)), nI_1, if_pos (inb_nI (by omega) (by decide)), if_pos (inb_nI (by omega) (by decide)), nI_clamp (by omega), nI_clamp (by omega), r1, Option.bind_some, nI_1, show nI c - 1 = nI (c - 1) by rw [show (1 : Int32) = nI 1 from rfl, nI_sub (by omega)], fi, Option.bind_some]
      rw [lp_inl st]
      obtain ⟨w, a2, b2, y1, y2⟩ := ih (c - 1) (mgG g i) (mgX x i) (m + 1) n r a' b' bk' (by omega) (by omega) g2
      have le := (mgo_ok l k (c - 1) (mgG g i) (mgX x i) bk').2
      refine ⟨w, a2, b2, ?_, y2⟩
      rw [y1, show m + 1 + (c - 1 - (mgo A l k (c - 1) (mgG g i) (mgX x i)).1) = m + (c - (mgo A l k (c - 1) (mgG g i) (mgX x i)).1) by omega]
    · rw [if_neg q]
      refine ⟨f, a, b, ?_, e1⟩
      rw [lp_inr (stop c g m f a b q)]
      show _ = some (a, b, f, nI c, nI (m + (c - c)))
      rw [Nat.sub_self, Nat.add_zero]
theorem lines10 {s : T10} {A : Sh} {l : Nat} (h : S10 s A) (hok : okS A) (hl : l < 2) : ∃ r a b, m_X10_lines s (nI l) = some (a, b, r, nI (lnK A l).1, nI (begC A - (lnK A l).1)) ∧ Eqn r (lnK A l).2.1 (lnK A l).1 := by
  have bk := beg_ok hok
  obtain ⟨f, b1, b2⟩ := begins10 h hok
  obtain ⟨a, b, fi⟩ := first10 (s := u10_merged 0 (u10_blocks (nI (begC A)) (u10_block f s))) (S10_mk h (by dsimp only [c10])) hok hl (BKS_all bk) rfl b2
  obtain ⟨r, a', b', y1, y2⟩ := mergeLoop10 h hok hl 7 (begC A) (begG A) (begX A) 0 fu f a b bk (by have := bk.1; omega) (by decide) b2
  refine ⟨r, a', b', ?_, y2⟩
  rw [Nat.zero_add] at y1
  have y1' : lp (fun z : Int32 × Int32 × Int32 × (Nat → Int32) × Int32 × Int32 => m_X10_lines_l15 s (nI l) z.1 z.2.1 z.2.2.1 z.2.2.2.1 z.2.2.2.2.1 z.2.2.2.2.2) fu (fwR A l (begC A) (begG A), a, b, f, nI (begC A), (0 : Int32)) = _ := y1
  unfold m_X10_lines
  rw [b1, Option.bind_some, fi, Option.bind_some, y1', Option.bind_some]
  rfl
