/-! pairs -/
def pcn (s : Nat) : Nat := sm (fun i => if s.testBit i then 1 else 0) 7
set_option maxRecDepth 100000 in
theorem bc7 : ∀ s, s < 128 → m_J6_bitCount_0f7a4 (nI s) = some (nI (pcn s)) := by decide +kernel
set_option maxRecDepth 100000 in
theorem full_pc : ∀ n, n < 8 → ∀ x, x < 2 ^ n → pcn (2 ^ n - 1) ≤ pcn x → x = 2 ^ n - 1 := by decide +kernel
theorem sm_trunc {g : Nat → Nat} {n m : Nat} (hnm : n ≤ m) (h : ∀ i, n ≤ i → g i = 0) : sm g m = sm g n := by
  induction m with
  | zero => rw [show n = 0 by omega]
  | succ m ih =>
    rcases Nat.lt_or_ge n (m + 1) with q | q
    · rw [sm, ih (by omega), h m (by omega), Nat.add_zero]
    · rw [show n = m + 1 by omega]
theorem pcn_bs (P : Nat → Bool) {n : Nat} (hn : n ≤ 7) : pcn (bs P n) = sm (fun i => if P i then 1 else 0) n := by
  unfold pcn
  rw [sm_congr (h := fun i => if (decide (i < n) && P i) = true then 1 else 0) (fun i _ => by rw [bs_bit]), sm_trunc hn (fun i hi => by simp [show ¬ i < n by omega])]
  exact sm_congr (fun i hi => by simp [hi])
theorem wrg_pc {A : Sh} (hok : okS A) (W p : Nat) : sm (fun q => if (undB A W p q && decide (mkA A q < mkA A p)) = true then 1 else 0) (hN A) = pcn (wrg A W p) := (pcn_bs _ hok.1.1).symm
theorem pairCount5 {s : T5} {A : Sh} {W : Nat} (h : SO s A W) (hok : okS A) : m_X5_pairCount s = some (nI (sm (fun p => pcn (wrg A W p)) (hN A))) := by
  have n7 := hok.1.1
  have p7 := pow_le7 n7
  obtain ⟨h1, h2, h3, h4, h5⟩ := h
  have key : lp (fun z : Int32 × Int32 => m_X5_pairCount_l4 s z.1 z.2) fu ((0 : Int32), (0 : Int32)) = some (nI (sm (fun p => pcn (wrg A W p)) (hN A))) := by
    refine lp_for (fun k => (nI (sm (fun p => pcn (wrg A W p)) k), nI k)) (hN A) (fun k hk => ?_) ?_ (by omega) rfl
    · have := wrg_lt A W k
      simp only [m_X5_pairCount_l4]
      rw [h5, if_neg (nI_ge hk (by omega)), get_in (by omega) (by decide), Option.bind_some, h4 k hk, bc7 _ (by omega), Option.bind_some, nI_add, nI_1]
      rfl
    · simp only [m_X5_pairCount_l4]
      rw [h5, if_pos (nI_le (Nat.le_refl _) (by omega))]
  unfold m_X5_pairCount
  rw [key, Option.bind_some]
theorem isPair10 {s : T10} {A : Sh} (h : S10 s A) (hok : okS A) (hb : Eqn (p10_beneath s) (bls A 0) (hN A)) {p q : Nat} (hp : p < hN A) (hq : q < hN A) : m_X10_isPair s (nI p) (nI q) = some (if (undB A 0 p q && decide (mkA A q < mkA A p)) = true then 1 else 0) := by
  have n7 := hok.1.1
  have p7 := pow_le7 n7
  have lb := bls_lt A 0 q
  have q1 := mkA_le hok hp
  have q2 := mkA_le hok hq
  unfold m_X10_isPair
  rw [if_pos (inb_nI (by omega) (by decide)), nI_clamp (by omega), hb q hq, has10 (by omega) (by omega), bls_und hp, Option.bind_some]
  by_cases c : undB A 0 p q = true
  · rw [if_pos c, if_neg (by decide), mark10 h hok hp, Option.bind_some, mark10 h hok hq, Option.bind_some, c, Bool.true_and]
    by_cases c2 : mkA A q < mkA A p
    · rw [if_neg (by rw [i_le, nI_toInt (by omega), nI_toInt (by omega)]; omega), if_pos (decide_eq_true c2)]
    · rw [if_pos (by rw [i_le, nI_toInt (by omega), nI_toInt (by omega)]; omega), if_neg (by simp [c2])]
  · rw [if_neg c, if_pos rfl, if_neg (by simp [c])]
theorem S10_beneath {s : T10} {A : Sh} (h : S10 s A) (g : Nat → Int32) : S10 (u10_beneath g s) A := S10_mk h (by dsimp only [c10])
theorem pairMany10 {s : T10} {A : Sh} (h : S10 s A) (hok : okS A) : ∃ g, m_X10_pairMany s = some (nI (sm (fun p => pcn (wrg A 0 p)) (hN A)), g) ∧ Eqn g (bls A 0) (hN A) := by
  have n7 := hok.1.1
  obtain ⟨g, g1, g2⟩ := reachAll h hok
  have hb := S10_beneath h g
  have inner : ∀ (p : Nat), p < hN A → ∀ c, lp (fun z : Int32 × Int32 => m_X10_pairMany_l22_2 s g (nI p) z.1 z.2) fu (nI c, (0 : Int32)) = some (nI (c + pcn (wrg A 0 p))) := by
    intro p hp c
    rw [← wrg_pc hok]
    refine lp_for (fun k => (nI (c + sm (fun q => if (undB A 0 p q && decide (mkA A q < mkA A p)) = true then 1 else 0) k), nI k)) (hN A) (fun k hk => ?_) ?_ (by omega) rfl
    · simp only [m_X10_pairMany_l22_2]
      rw [h.1, if_neg (nI_ge hk (by omega)), isPair10 hb hok g2 hp hk, Option.bind_some, nI_1]
      by_cases c2 : (undB A 0 p k && decide (mkA A k < mkA A p)) = true
      · rw [if_pos c2, if_neg (by decide), nI_1, sm, if_pos c2, Nat.add_assoc]
      · rw [if_neg c2, if_pos rfl, Int32.add_zero, sm, if_neg c2]
        rfl
    · simp only [m_X10_pairMany_l22_2]
      rw [h.1, if_pos (nI_le (Nat.le_refl _) (by omega))]
  have key : lp (fun z : Int32 × Int32 => m_X10_pairMany_l12 s g z.1 z.2) fu ((0 : Int32), (0 : Int32)) = some (nI (sm (fun p => pcn (wrg A 0 p)) (hN A))) := by
    refine lp_for (fun k => (nI (sm (fun p => pcn (wrg A 0 p)) k), nI k)) (hN A) (fun k hk => ?_) ?_ (by omega) rfl
    · simp only [m_X10_pairMany_l12]
      rw [h.1, if_neg (nI_ge hk (by omega)), inner k hk, Option.bind_some, nI_1]
      rfl
    · simp only [m_X10_pairMany_l12]
      rw [h.1, if_pos (nI_le (Nat.le_refl _) (by omega))]
  refine ⟨g, ?_, g2⟩
  unfold m_X10_pairMany
  rw [all10 h hok, Option.bind_some, g1, Option.bind_some, key, Option.bind_some]
/-- one of each two is in it -/
def mts (A : Sh) (W x : Nat) : Prop := ∀ p q, p < hN A → q < hN A → (undB A W p q && decide (mkA A q < mkA A p)) = true → x.testBit p = true ∨ x.testBit q = true
theorem meets5 {s : T5} {A : Sh} {W : Nat} (h : SO s A W) (hok : okS A) {x : Nat} (hx : x < 2 ^ hN A) : (m_X5_meetsAllPairs s (nI x) = some 1 ∧ mts A W x) ∨ (m_X5_meetsAllPairs s (nI x) = some 0 ∧ ¬ mts A W x) := by
  have n7 := hok.1.1
  have p7 := pow_le7 n7
  obtain ⟨h1, h2, h3, h4, h5⟩ := h
  obtain ⟨r, e, q⟩ := lp_invf (f := fun z : Int32 => m_X5_meetsAllPairs_l2 s (nI x) z) (I := fun d z => ∃ t, t ≤ hN A ∧ d = hN A - t ∧ z = nI t ∧ ∀ p q, p < t → q < hN A → (undB A W p q && decide (mkA A q < mkA A p)) = true → x.testBit p = true ∨ x.testBit q = true) (Q := fun r => (r = .inr () ∧ mts A W x) ∨ (r = .inl () ∧ ¬ mts A W x)) (d := hN A) (s := 0) (by
    rintro d z ⟨t, ht, hd, rfl, no⟩
    rcases Nat.lt_or_ge t (hN A) with q | q
    · have lw := wrg_lt A W t
      have ld := dif_le (wrg A W t) x
      have go : m_X5_meetsAllPairs_l2 s (nI x) (nI t) = if x.testBit t = true then some (.inl (nI (t + 1))) else if nI (dif (wrg A W t) x) = 0 then some (.inl (nI (t + 1))) else some (.inr (.inl ())) := by
        unfold m_X5_meetsAllPairs_l2
        rw [h5, if_neg (nI_ge q (by omega)), hasBit9 (by omega) (by omega), Option.bind_some, nI_1]
        by_cases c : x.testBit t = true
        · rw [if_pos c, if_pos c, if_neg (by decide)]
        · rw [if_neg c, if_neg c, if_pos rfl, get_in (by omega) (by decide), Option.bind_some, h4 t q, nI_dif]
      rw [go]
      by_cases c : x.testBit t = true
      · rw [if_pos c]
        refine Or.inl ⟨hN A - (t + 1), _, rfl, by omega, t + 1, by omega, rfl, rfl, fun p q' hp hq hh => ?_⟩
        rcases Nat.lt_or_ge p t with w | w
        · exact no p q' w hq hh
        · rw [show p = t by omega]
          exact Or.inl c
      · rw [if_neg c]
        by_cases c2 : nI (dif (wrg A W t) x) = 0
        · rw [if_pos c2]
          have c3 : dif (wrg A W t) x = 0 := nI_inj (b := 0) (by omega) (by decide) c2
          refine Or.inl ⟨hN A - (t + 1), _, rfl, by omega, t + 1, by omega, rfl, rfl, fun p q' hp hq hh => ?_⟩
          rcases Nat.lt_or_ge p t with w | w
          · exact no p q' w hq hh
          · rw [show p = t by omega] at hh ⊢
            refine Classical.byContradiction fun k => ?_
            have : (dif (wrg A W t) x).testBit q' = true := by
              rw [dif_bitp]
              refine ⟨?_, fun k2 => k (Or.inr k2)⟩
              unfold wrg
              rw [bs_bit, decide_eq_true hq, Bool.true_and]
              exact hh
            rw [c3, Nat.zero_testBit] at this
            cases this
        · rw [if_neg c2]
          refine Or.inr ⟨_, rfl, Or.inr ⟨rfl, fun k => c2 ?_⟩⟩
          have : dif (wrg A W t) x = 0 := by
            refine Nat.eq_of_testBit_eq (fun i => ?_)
            rw [Nat.zero_testBit]
            cases v : (dif (wrg A W t) x).testBit i with
            | false => rfl
            | true =>
              rw [dif_bitp] at v
              have v1 := v.1
              unfold wrg at v1
              rw [bs_bit, Bool.and_eq_true, decide_eq_true_iff] at v1
              rcases k t i q v1.1 v1.2 with k | k
              · exact absurd k c
              · exact absurd k v.2
          rw [this]
          rfl
    · refine Or.inr ⟨.inr (), ?_, Or.inl ⟨rfl, fun p q' hp => no p q' (by omega)⟩⟩
      unfold m_X5_meetsAllPairs_l2
      rw [h5, if_pos (nI_le q (by omega))]) ⟨0, Nat.zero_le _, rfl, rfl, fun p q hp => absurd hp (Nat.not_lt_zero p)⟩ (by omega)
  unfold m_X5_meetsAllPairs
  rw [e, Option.bind_some]
  rcases q with ⟨rfl, q⟩ | ⟨rfl, q⟩
  · exact Or.inl ⟨rfl, q⟩
  · exact Or.inr ⟨rfl, q⟩
theorem covers10 {s : T10} {A : Sh} (h : S10 s A) (hok : okS A) (hb : Eqn (p10_beneath s) (bls A 0) (hN A)) {x : Nat} (hx : x < 2 ^ hN A) : (m_X10_covers s (nI x) = some 1 ∧ mts A 0 x) ∨ (m_X10_covers s (nI x) = some 0 ∧ ¬ mts A 0 x) := by
  have n7 := hok.1.1
  have p7 := pow_le7 n7
  have inner : ∀ p, p < hN A → ∃ r, lp (fun z : Int32 => m_X10_covers_l12_2 s (nI x) (nI p) z) fu 0 = some r ∧ ((r = .inr () ∧ ∀ q, q < hN A → (undB A 0 p q && decide (mkA A q < mkA A p)) = true → x.testBit p = true ∨ x.testBit q = true) ∨ (r = .inl () ∧ ¬ ∀ q, q < hN A → (undB A 0 p q && decide (mkA A q < mkA A p)) = true → x.testBit p = true ∨ x.testBit q = true)) := by
    intro p hp
    refine lp_invf (f := fun z : Int32 => m_X10_covers_l12_2 s (nI x) (nI p) z) (I := fun d z => ∃ t, t ≤ hN A ∧ d = hN A - t ∧ z = nI t ∧ ∀ q, q < t → (undB A 0 p q && decide (mkA A q < mkA A p)) = true → x.testBit p = true ∨ x.testBit q = true) (Q := _) (d := hN A) (s := 0) ?_ ⟨0, Nat.zero_le _, rfl, rfl, fun q hq => absurd hq (Nat.not_lt_zero q)⟩ (by omega)
    rintro d z ⟨t, ht, hd, rfl, no⟩
    rcases Nat.lt_or_ge t (hN A) with q | q
    · have go : m_X10_covers_l12_2 s (nI x) (nI p) (nI t) = if (undB A 0 p t && decide (mkA A t < mkA A p)) = true then (if x.testBit p = true then some (.inl (nI (t + 1))) else if x.testBit t = true then some (.inl (nI (t + 1))) else some (.inr (.inl ()))) else some (.inl (nI (t + 1))) := by
        unfold m_X10_covers_l12_2
        rw [h.1, if_neg (nI_ge q (by omega)), isPair10 h hok hb hp q, Option.bind_some, nI_1]
        by_cases c : (undB A 0 p t && decide (mkA A t < mkA A p)) = true
        · rw [if_pos c, if_pos c, if_neg (by decide), has10 (by omega) (by omega), Option.bind_some]
          by_cases c2 : x.testBit p = true
          · rw [if_pos c2, if_pos c2, if_neg (by decide)]
          · rw [if_neg c2, if_neg c2, if_pos rfl, has10 (by omega) (by omega), Option.bind_some]
            by_cases c3 : x.testBit t = true
            · rw [if_pos c3, if_pos c3, if_neg (by decide)]
            · rw [if_neg c3, if_neg c3, if_pos rfl]
        · rw [if_neg c, if_neg c, if_pos rfl]
      rw [go]
      by_cases c : (undB A 0 p t && decide (mkA A t < mkA A p)) = true
      · rw [if_pos c]
        by_cases c2 : x.testBit p = true
        · rw [if_pos c2]
          exact Or.inl ⟨hN A - (t + 1), _, rfl, by omega, t + 1, by omega, rfl, rfl, fun q' _ _ => Or.inl c2⟩
        · rw [if_neg c2]
          by_cases c3 : x.testBit t = true
          · rw [if_pos c3]
            refine Or.inl ⟨hN A - (t + 1), _, rfl, by omega, t + 1, by omega, rfl, rfl, fun q' hq hh => ?_⟩
            rcases Nat.lt_or_ge q' t with w | w
            · exact no q' w hh
            · rw [show q' = t by omega]; exact Or.inr c3
          · rw [if_neg c3]
            exact Or.inr ⟨_, rfl, Or.inr ⟨rfl, fun k => (k t q c).elim c2 c3⟩⟩
      · rw [if_neg c]
        refine Or.inl ⟨hN A - (t + 1), _, rfl, by omega, t + 1, by omega, rfl, rfl, fun q' hq hh => ?_⟩
        rcases Nat.lt_or_ge q' t with w | w
        · exact no q' w hh
        · rw [show q' = t by omega] at hh; exact absurd hh c
    · refine Or.inr ⟨.inr (), ?_, Or.inl ⟨rfl, fun q' hq => no q' (by omega)⟩⟩
      unfold m_X10_covers_l12_2
      rw [h.1, if_pos (nI_le q (by omega))]
  obtain ⟨r, e, q⟩ := lp_invf (f := fun z : Int32 => m_X10_covers_l2 s (nI x) z) (I := fun d z => ∃ t, t ≤ hN A ∧ d = hN A - t ∧ z = nI t ∧ ∀ p q, p < t → q < hN A → (undB A 0 p q && decide (mkA A q < mkA A p)) = true → x.testBit p = true ∨ x.testBit q = true) (Q := fun r => (r = .inr () ∧ mts A 0 x) ∨ (r = .inl () ∧ ¬ mts A 0 x)) (d := hN A) (s := 0) (by
    rintro d z ⟨t, ht, hd, rfl, no⟩
    rcases Nat.lt_or_ge t (hN A) with q | q
    · obtain ⟨r, e, f⟩ := inner t q
      rcases f with ⟨rfl, f⟩ | ⟨rfl, f⟩
      · have go : m_X10_covers_l2 s (nI x) (nI t) = some (.inl (nI (t + 1))) := by
          unfold m_X10_covers_l2
          rw [h.1, if_neg (nI_ge q (by omega)), e, Option.bind_some]
          show some (Sum.inl (nI t + 1)) = _
          rw [nI_1]
        refine Or.inl ⟨hN A - (t + 1), _, go, by omega, t + 1, by omega, rfl, rfl, fun p q' hp hq hh => ?_⟩
        rcases Nat.lt_or_ge p t with w | w
        · exact no p q' w hq hh
        · rw [show p = t by omega] at hh ⊢
          exact f q' hq hh
      · have go : m_X10_covers_l2 s (nI x) (nI t) = some (.inr (.inl ())) := by
          unfold m_X10_covers_l2
          rw [h.1, if_neg (nI_ge q (by omega)), e, Option.bind_some]
        exact Or.inr ⟨_, go, Or.inr ⟨rfl, fun k => f fun q' hq hh => k t q' q hq hh⟩⟩
    · refine Or.inr ⟨.inr (), ?_, Or.inl ⟨rfl, fun p q' hp => no p q' (by omega)⟩⟩
      unfold m_X10_covers_l2
      rw [h.1, if_pos (nI_le q (by omega))]) ⟨0, Nat.zero_le _, rfl, rfl, fun p q hp => absurd hp (Nat.not_lt_zero p)⟩ (by omega)
  unfold m_X10_covers
  rw [e, Option.bind_some]
  rcases q with ⟨rfl, q⟩ | ⟨rfl, q⟩
  · exact Or.inl ⟨rfl, q⟩
  · exact Or.inr ⟨rfl, q⟩
/-- the best of all sets that meet all pairs -/
def bestm (A : Sh) (W m : Nat) : Prop := mts A W m ∧ m < 2 ^ hN A ∧ ∀ x, x < 2 ^ hN A → mts A W x → pcn m < pcn x ∨ (pcn m = pcn x ∧ m ≤ x)
theorem bestm_eq {A : Sh} {W a b : Nat} (h : bestm A W a) (k : bestm A W b) : a = b := by
  have h1 := h.2.2 b k.2.1 k.1
  have k1 := k.2.2 a h.2.1 h.1
  omega
theorem mts_all (A : Sh) (W : Nat) : mts A W (2 ^ hN A - 1) := fun p q hp hq hh => Or.inl (all_bit hp)
theorem nI_less {t : Nat} (h : 1 ≤ t) : nI t + (-1) = nI (t - 1) := by
  rw [← Int32.sub_eq_add_neg]
  exact nI_pred_of h
theorem nI_lti {a b : Nat} (ha : a < 2 ^ 31) (hb : b < 2 ^ 31) : nI a < nI b ↔ a < b := by
  rw [i_lt, nI_toInt ha, nI_toInt hb]
  omega
theorem nI_lei {a b : Nat} (ha : a < 2 ^ 31) (hb : b < 2 ^ 31) : nI a ≤ nI b ↔ a ≤ b := by
  rw [i_le, nI_toInt ha, nI_toInt hb]
  omega
set_option maxRecDepth 100000 in
theorem pcn_le : ∀ x, x < 128 → pcn x ≤ 7 := by decide +kernel
theorem fewest5 {s : T5} {A : Sh} {W : Nat} (h : SO s A W) (hok : okS A) : ∃ m, m_X5_fewestToLeave s = some (nI m) ∧ bestm A W m := by
  have n7 := hok.1.1
  have p7 := pow_le7 n7
  have pp := Nat.two_pow_pos (hN A)
  obtain ⟨r, e, m, q1, q2⟩ := lp_invf (f := fun z : Int32 × Int32 => m_X5_fewestToLeave_l11 s z.1 z.2) (I := fun d z => ∃ b m, b ≤ 2 ^ hN A ∧ d = b ∧ z.2 = nI b + (-1) ∧ z.1 = nI m ∧ m < 2 ^ hN A ∧ mts A W m ∧ ∀ x, b ≤ x → x < 2 ^ hN A → mts A W x → pcn m < pcn x ∨ (pcn m = pcn x ∧ m ≤ x)) (Q := fun r => ∃ m, r = nI m ∧ bestm A W m) (d := 2 ^ hN A) (s := (nI (2 ^ hN A - 1), nI (2 ^ hN A - 1))) (by
    rintro d ⟨z1, z2⟩ ⟨b, m, hb, rfl, rfl, rfl, hm, mm, all⟩
    simp only
    rcases Nat.eq_zero_or_pos d with q | q
    · refine Or.inr ⟨nI m, ?_, m, rfl, mm, hm, fun x hx => all x (by omega) hx⟩
      unfold m_X5_fewestToLeave_l11
      rw [q, if_pos (by decide)]
    · have a1 := pcn_le m (by omega)
      have a2 := pcn_le (d - 1) (by omega)
      have go : m_X5_fewestToLeave_l11 s (nI m) (nI d + (-1)) = if pcn m < pcn (d - 1) then some (.inl (nI m, nI (d - 1) + (-1))) else (m_X5_meetsAllPairs s (nI (d - 1))).bind fun x9 => if x9 = 0 then some (.inl (nI m, nI (d - 1) + (-1))) else some (.inl (nI (d - 1), nI (d - 1) + (-1))) := by
        unfold m_X5_fewestToLeave_l11
        rw [nI_less q, if_neg (nI_pos (by omega)), bc7 _ (by omega), Option.bind_some, bc7 _ (by omega), Option.bind_some]
        by_cases c : pcn m < pcn (d - 1)
        · rw [if_pos ((nI_lti (by omega) (by omega)).mpr c), if_pos c]
        · rw [if_neg (fun k => c ((nI_lti (by omega) (by omega)).mp k)), if_neg c]
      rw [go]
      by_cases c : pcn m < pcn (d - 1)
      · rw [if_pos c]
        refine Or.inl ⟨d - 1, _, rfl, by omega, d - 1, m, by omega, rfl, rfl, rfl, hm, mm, fun x hx hx2 hx3 => ?_⟩
        rcases Nat.lt_or_ge x d with w | w
        · rw [show x = d - 1 by omega]
          exact Or.inl c
        · exact all x w hx2 hx3
      · rw [if_neg c]
        rcases meets5 h hok (x := d - 1) (by omega) with ⟨t1, t2⟩ | ⟨t1, t2⟩
        · rw [t1, Option.bind_some, if_neg (by decide)]
          refine Or.inl ⟨d - 1, _, rfl, by omega, d - 1, d - 1, by omega, rfl, rfl, rfl, by omega, t2, fun x hx hx2 hx3 => ?_⟩
          rcases Nat.lt_or_ge x d with w | w
          · rw [show x = d - 1 by omega]
            exact Or.inr ⟨rfl, Nat.le_refl _⟩
          · have := all x w hx2 hx3
            omega
        · rw [t1, Option.bind_some, if_pos rfl]
          refine Or.inl ⟨d - 1, _, rfl, by omega, d - 1, m, by omega, rfl, rfl, rfl, hm, mm, fun x hx hx2 hx3 => ?_⟩
          rcases Nat.lt_or_ge x d with w | w
          · rw [show x = d - 1 by omega] at hx3
            exact absurd hx3 t2
          · exact all x w hx2 hx3) ⟨2 ^ hN A, 2 ^ hN A - 1, Nat.le_refl _, rfl, (nI_less (by omega)).symm, rfl, by omega, mts_all A W, fun x hx hx2 => absurd hx2 (by omega)⟩ (by omega)
  refine ⟨m, ?_, q2⟩
  unfold m_X5_fewestToLeave
  rw [h.2.2.2.2, nI_shl1 _ (by omega), nI_pred_of pp, Option.bind_some, e, Option.bind_some, q1]
theorem fewest10 {s : T10} {A : Sh} (h : S10 s A) (hok : okS A) {v : Int32 × (Nat → Int32)} (hb : Eqn v.2 (bls A 0) (hN A)) : ∃ m, lp (fun z : Int32 × Int32 => m_X10_pairs_l39 s v z.1 z.2) fu (nI (2 ^ hN A - 1), (0 : Int32)) = some (nI m) ∧ bestm A 0 m := by
  have n7 := hok.1.1
  have p7 := pow_le7 n7
  have pp := Nat.two_pow_pos (hN A)
  have hs := S10_beneath h v.2
  obtain ⟨r, e, m, q1, q2⟩ := lp_invf (f := fun z : Int32 × Int32 => m_X10_pairs_l39 s v z.1 z.2) (I := fun d z => ∃ t m, t ≤ 2 ^ hN A ∧ d = 2 ^ hN A - t ∧ z.2 = nI t ∧ z.1 = nI m ∧ m < 2 ^ hN A ∧ mts A 0 m ∧ (m < t ∨ m = 2 ^ hN A - 1) ∧ ∀ x, x < t → mts A 0 x → pcn m < pcn x ∨ (pcn m = pcn x ∧ m ≤ x)) (Q := fun r => ∃ m, r = nI m ∧ bestm A 0 m) (d := 2 ^ hN A) (s := (nI (2 ^ hN A - 1), (0 : Int32))) (by
    rintro d ⟨z1, z2⟩ ⟨t, m, ht, hd, rfl, rfl, hm, mm, lm, all⟩
    simp only
    rcases Nat.lt_or_ge t (2 ^ hN A) with q | q
    · have a1 := pcn_le m (by omega)
      have a2 := pcn_le t (by omega)
      have go : m_X10_pairs_l39 s v (nI m) (nI t) = if pcn m ≤ pcn t then some (.inl (nI m, nI (t + 1))) else (m_X10_covers (u10_beneath v.2 s) (nI t)).bind fun x9 => if x9 = 0 then some (.inl (nI m, nI (t + 1))) else some (.inl (nI t, nI (t + 1))) := by
        unfold m_X10_pairs_l39
        rw [h.1, nI_shl1 _ (by omega), if_neg (nI_ge q (by omega)), bc7 _ (by omega), Option.bind_some, bc7 _ (by omega), Option.bind_some, nI_1]
        by_cases c : pcn m ≤ pcn t
        · rw [if_pos ((nI_lei (by omega) (by omega)).mpr c), if_pos c]
        · rw [if_neg (fun k => c ((nI_lei (by omega) (by omega)).mp k)), if_neg c]
      rw [go]
      by_cases c : pcn m ≤ pcn t
      · rw [if_pos c]
        refine Or.inl ⟨2 ^ hN A - (t + 1), _, rfl, by omega, t + 1, m, by omega, rfl, rfl, rfl, hm, mm, by omega, fun x hx hx3 => ?_⟩
        rcases Nat.lt_or_ge x t with w | w
        · exact all x w hx3
        · rw [show x = t by omega]
          rcases lm with l | l
          · omega
          · rw [l] at c ⊢
            have := full_pc (hN A) (by omega) t q c
            omega
      · rw [if_neg c]
        rcases covers10 hs hok hb (x := t) (by omega) with ⟨t1, t2⟩ | ⟨t1, t2⟩
        · rw [t1, Option.bind_some, if_neg (by decide)]
          refine Or.inl ⟨2 ^ hN A - (t + 1), _, rfl, by omega, t + 1, t, by omega, rfl, rfl, rfl, by omega, t2, by omega, fun x hx hx3 => ?_⟩
          rcases Nat.lt_or_ge x t with w | w
          · have := all x w hx3
            omega
          · rw [show x = t by omega]
            exact Or.inr ⟨rfl, Nat.le_refl _⟩
        · rw [t1, Option.bind_some, if_pos rfl]
          refine Or.inl ⟨2 ^ hN A - (t + 1), _, rfl, by omega, t + 1, m, by omega, rfl, rfl, rfl, hm, mm, by omega, fun x hx hx3 => ?_⟩
          rcases Nat.lt_or_ge x t with w | w
          · exact all x w hx3
          · rw [show x = t by omega] at hx3
            exact absurd hx3 t2
    · refine Or.inr ⟨nI m, ?_, m, rfl, mm, hm, fun x hx => all x (by omega)⟩
      unfold m_X10_pairs_l39
      rw [h.1, nI_shl1 _ (by omega), if_pos (nI_le q (by omega))]) ⟨0, 2 ^ hN A - 1, Nat.zero_le _, rfl, rfl, rfl, by omega, mts_all A 0, Or.inr rfl, fun x hx => absurd hx (Nat.not_lt_zero x)⟩ (by omega)
  exact ⟨m, by rw [e, q1], q2⟩
theorem part_cases (x : Int32) : ((x = 0 ∨ x = 1) ∧ m_X9_isPart x = some 1 ∧ m_X10_in x 0 1 = some 1) ∨ (m_X9_isPart x = some 0 ∧ m_X10_in x 0 1 = some 0) := by
  unfold m_X9_isPart
  rw [in10, z32, show (1 : Int32).toInt = 1 from rfl]
  by_cases c0 : x = 0
  · rw [if_pos c0, c0]
    exact Or.inl ⟨Or.inl rfl, rfl, rfl⟩
  · rw [if_neg c0]
    by_cases c1 : x = 1
    · rw [if_pos c1, c1]
      exact Or.inl ⟨Or.inr rfl, rfl, rfl⟩
    · rw [if_neg c1, if_neg]
      · exact Or.inr ⟨rfl, rfl⟩
      · rw [i_eq, z32] at c0
        rw [i_eq, show (1 : Int32).toInt = 1 from rfl] at c1
        omega
theorem op_pairs : OP_pairs Rel := by
  intro s9 s10 p1 ⟨A, hok, h6, h10, rI, rL, rT, rH, rR, rS, rB⟩
  have n7 := hok.1.1
  rcases part_cases p1 with ⟨pc, e9, e10⟩ | ⟨e9, e10⟩
  · obtain ⟨u, u1, u2⟩ := order5 (s := p9_order s9) h6 hok (W := 0) (by decide)
    obtain ⟨g, g1, g2⟩ := pairMany10 h10 hok
    have u1' : m_X5_work (p9_order s9) (p9_now s9) 0 = some u := u1
    have fin : ∀ x : Int32, m_X9_pairs s9 p1 = some (x, p9_refusals s9, u.1, u.2.1, u.2.2.1, u.2.2.2.1, u.2.2.2.2) → m_X10_pairs s10 p1 = some (x, p10_refusals s10, g) → ∃ u v, m_X9_pairs s9 p1 = some u ∧ m_X10_pairs s10 p1 = some v ∧ u.1 = v.1 ∧ Rel (st_X9_pairs s9 u) (st_X10_pairs s10 v) := fun x a b => ⟨_, _, a, b, rfl, Rel_q rI rL rT rH (by dsimp only [keep9q, st_X9_pairs]) (by dsimp only [keep10, st_X10_pairs]) hok (by dsimp only [st_X9_pairs]; exact h6) (S10_mk h10 (by dsimp only [c10, st_X10_pairs])) (by dsimp only [st_X9_pairs, st_X10_pairs]; exact rR) (by dsimp only [st_X9_pairs]; exact rS) (by dsimp only [RelB, st_X9_pairs]; exact rB)⟩
    by_cases c : p1 = 0
    · refine fin (nI (sm (fun p => pcn (wrg A 0 p)) (hN A))) ?_ ?_
      · unfold m_X9_pairs
        rw [e9, Option.bind_some, if_neg (by decide), u1', Option.bind_some, if_pos c, pairCount5 u2 hok, Option.bind_some]
      · unfold m_X10_pairs
        rw [e10, Option.bind_some, if_neg (by decide), g1, Option.bind_some, if_pos c]
    · obtain ⟨m, m1, m2⟩ := fewest5 u2 hok
      obtain ⟨k, k1, k2⟩ := fewest10 h10 hok (v := (nI (sm (fun p => pcn (wrg A 0 p)) (hN A)), g)) g2
      rw [bestm_eq k2 m2] at k1
      refine fin (nI m) ?_ ?_
      · unfold m_X9_pairs
        rw [e9, Option.bind_some, if_neg (by decide), u1', Option.bind_some, if_neg c, m1, Option.bind_some]
      · unfold m_X10_pairs
        rw [e10, Option.bind_some, if_neg (by decide), g1, Option.bind_some, if_neg c, h10.1, nI_shl1 _ (by omega), nI_pred_of (Nat.two_pow_pos _), Option.bind_some, k1, Option.bind_some]
  · refine ⟨(-2, cnt (p9_refusals s9) 2, p5_overs (p9_order s9), p5_unders (p9_order s9), p5_marks (p9_order s9), p5_wrongs (p9_order s9), p5_papers (p9_order s9)), (-2, cnt (p10_refusals s10) 2, p10_beneath s10), ?_, ?_, rfl, A, hok, h6, h10, rI, rL, rT, rH, Req_cnt rR (by decide), rS, rB⟩
    · unfold m_X9_pairs
      rw [e9, Option.bind_some, if_pos rfl, use9 (k := 2) _ (by decide) (by decide), Option.bind_some]
    · unfold m_X10_pairs
      rw [e10, Option.bind_some, if_pos rfl, no10 (k := 2) _ (by decide) (by decide), Option.bind_some]
