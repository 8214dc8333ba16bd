/-! the reference's way to those under a paper -/
theorem rules_lt {A : Sh} (hok : okS A) : 2 ^ hU A ≤ 4096 := Nat.pow_le_pow_right (n := 2) (by decide) hok.2.1.1
theorem reach_a {s : T10} {A : Sh} (h : S10 s A) (hok : okS A) {T W : Nat} (hT : T < 2 ^ 12) (hTW : ∀ r, r < hU A → T.testBit r = !W.testBit r) {f : Nat → Int32} (f0 : ∀ p, p < hN A → f p = 0) : ∃ g, lp (fun z : Int32 × (Nat → Int32) => m_X10_reach_l23 s (nI T) z.1 z.2) fu ((0 : Int32), f) = some g ∧ ∃ G : Nat → Nat, Eqn g G (hN A) ∧ (∀ p, p < hN A → G p < 2 ^ hN A) ∧ (∀ p q, p < hN A → ((G p).testBit q = true ↔ edg A W q p)) := by
  have n7 := hok.1.1
  have n12 := hok.2.1.1
  have p7 := pow_le7 n7
  obtain ⟨-, -, ⟨h1, h2, h3⟩, -⟩ := id h
  refine lp_invf (I := fun d z => ∃ (t : Nat) (G : Nat → Nat), t ≤ hU A ∧ d = hU A - t ∧ z.1 = nI t ∧ Eqn z.2 G (hN A) ∧ (∀ p, p < hN A → G p < 2 ^ hN A) ∧ (∀ p q, p < hN A → ((G p).testBit q = true ↔ ∃ r, r < t ∧ W.testBit r = false ∧ hL A r = q ∧ hO A r = p))) (Q := _) ?_ (d := hU A) ?_ (by omega)
  · rintro d ⟨i, f'⟩ ⟨t, G, ht, hd, rfl, e, lt, iff⟩
    simp only at e ⊢
    rcases Nat.lt_or_ge t (hU A) with q | q
    · refine Or.inl ?_
      obtain ⟨k1, k2, k3⟩ := hok.2.1.2 t q
      have ib : inb (nI t) 12 = true := inb_nI (by omega) (by decide)
      have ib2 : inb (nI (hO A t)) 7 = true := inb_nI (by omega) (by decide)
      have cl : (nI t).toNatClampNeg = t := nI_clamp (by omega)
      have cl2 : (nI (hO A t)).toNatClampNeg = hO A t := nI_clamp (by omega)
      have go : m_X10_reach_l23 s (nI T) (nI t) f' = (if T.testBit t = true then some (.inl (nI (t + 1), upd f' (hO A t) (nI (G (hO A t) ||| 2 ^ hL A t)))) else some (.inl (nI (t + 1), f'))) := by
        unfold m_X10_reach_l23
        rw [h1, if_neg (nI_ge q (by omega)), has10 (by omega) (by omega), Option.bind_some, nI_1]
        by_cases c : T.testBit t = true
        · rw [if_pos c, if_pos c, if_neg (by decide), if_pos ib, cl, h3 t q, h2 t q, if_pos ib2, if_pos ib, if_pos ib2, cl2, e _ k2, nI_shl1 _ (by omega), nI_or]
        · rw [if_neg c, if_neg c, if_pos rfl]
      rw [go]
      by_cases c : T.testBit t = true
      · rw [if_pos c]
        have w0 : W.testBit t = false := by
          have := hTW t q
          rw [c] at this
          simpa using this.symm
        refine ⟨hU A - (t + 1), _, rfl, by omega, t + 1, fun p => if p = hO A t then G (hO A t) ||| 2 ^ hL A t else G p, by omega, rfl, rfl, Eqn_upd e rfl, fun p hp => ?_, fun p q' hp => ?_⟩
        · show (if p = hO A t then _ else _) < _
          by_cases w : p = hO A t
          · rw [if_pos w]; exact or_lt (lt _ k2) (Nat.pow_lt_pow_right (by decide) k1)
          · rw [if_neg w]; exact lt p hp
        · show (if p = hO A t then G (hO A t) ||| 2 ^ hL A t else G p).testBit q' = true ↔ _
          by_cases w : p = hO A t
          · rw [if_pos w, or_bit, pow_bit, iff _ _ k2, w]
            constructor
            · rintro (⟨r, a1, a2, a3, a4⟩ | a)
              · exact ⟨r, by omega, a2, a3, a4⟩
              · exact ⟨t, by omega, w0, a.symm, rfl⟩
            · rintro ⟨r, a1, a2, a3, a4⟩
              rcases Nat.lt_or_ge r t with b | b
              · exact Or.inl ⟨r, b, a2, a3, a4⟩
              · rw [show r = t by omega] at a3
                exact Or.inr a3.symm
          · rw [if_neg w, iff _ _ hp]
            constructor
            · rintro ⟨r, a1, a2, a3, a4⟩
              exact ⟨r, by omega, a2, a3, a4⟩
            · rintro ⟨r, a1, a2, a3, a4⟩
              rcases Nat.lt_or_ge r t with b | b
              · exact ⟨r, b, a2, a3, a4⟩
              · rw [show r = t by omega] at a4
                exact absurd a4.symm w
      · rw [if_neg c]
        have w0 : W.testBit t = true := by
          have := hTW t q
          rw [show T.testBit t = false by simpa using c] at this
          simpa using this.symm
        refine ⟨hU A - (t + 1), _, rfl, by omega, t + 1, G, by omega, rfl, rfl, e, lt, fun p q' hp => ?_⟩
        rw [iff _ _ hp]
        constructor
        · rintro ⟨r, a1, a2, a3, a4⟩
          exact ⟨r, by omega, a2, a3, a4⟩
        · rintro ⟨r, a1, a2, a3, a4⟩
          rcases Nat.lt_or_ge r t with b | b
          · exact ⟨r, b, a2, a3, a4⟩
          · rw [show r = t by omega, w0] at a2
            cases a2
    · refine Or.inr ⟨f', ?_, G, e, lt, fun p q' hp => ?_⟩
      · unfold m_X10_reach_l23
        rw [h1, if_pos (nI_le q (by omega))]
      · rw [iff _ _ hp, show t = hU A by omega]
        rfl
  · refine ⟨0, fun _ => 0, Nat.zero_le _, rfl, rfl, fun p hp => f0 p hp, fun p hp => Nat.two_pow_pos _, fun p q hp => ?_⟩
    rw [Nat.zero_testBit]
    constructor
    · intro c; cases c
    · rintro ⟨r, a1, _⟩; exact absurd a1 (Nat.not_lt_zero r)
theorem reach_b {s : T10} {A : Sh} (h : S10 s A) (hok : okS A) {k : Nat} (hk : k < hN A) {f : Nat → Int32} {G : Nat → Nat} (e : Eqn f G (hN A)) (lt : ∀ p, p < hN A → G p < 2 ^ hN A) : ∃ g, lp (fun z : Int32 × (Nat → Int32) => m_X10_reach_l79_2 s (nI k) z.1 z.2) fu ((0 : Int32), f) = some g ∧ ∃ G' : Nat → Nat, Eqn g G' (hN A) ∧ (∀ p, p < hN A → G' p < 2 ^ hN A) ∧ (∀ p q, p < hN A → ((G' p).testBit q = true ↔ (G p).testBit q = true ∨ ((G p).testBit k = true ∧ (G k).testBit q = true))) := by
  have n7 := hok.1.1
  have p7 := pow_le7 n7
  refine lp_invf (I := fun d z => ∃ (t : Nat) (G' : Nat → Nat), t ≤ hN A ∧ d = hN A - t ∧ z.1 = nI t ∧ Eqn z.2 G' (hN A) ∧ (∀ p, p < hN A → G' p < 2 ^ hN A) ∧ (∀ p, t ≤ p → p < hN A → G' p = G p) ∧ (∀ p q, p < t → ((G' p).testBit q = true ↔ (G p).testBit q = true ∨ ((G p).testBit k = true ∧ (G k).testBit q = true)))) (Q := _) ?_ (d := hN A) ?_ (by omega)
  · rintro d ⟨i, f'⟩ ⟨t, G', ht, hd, rfl, e', lt', up', iff⟩
    simp only at e' ⊢
    rcases Nat.lt_or_ge t (hN A) with q | q
    · refine Or.inl ?_
      have ib : inb (nI t) 7 = true := inb_nI (by omega) (by decide)
      have ib2 : inb (nI k) 7 = true := inb_nI (by omega) (by decide)
      have cl : (nI t).toNatClampNeg = t := nI_clamp (by omega)
      have cl2 : (nI k).toNatClampNeg = k := nI_clamp (by omega)
      have x1 := lt' t q
      have x2 := lt t q
      have x3 := lt' k hk
      have gk : ∀ q', (G' k).testBit q' = true ↔ (G k).testBit q' = true := by
        intro q'
        rcases Nat.lt_or_ge k t with w | w
        · rw [iff k q' w]
          exact ⟨fun a => a.elim id fun b => b.2, Or.inl⟩
        · rw [up' k w hk]
      have go : m_X10_reach_l79_2 s (nI k) (nI t) f' = some (.inl (nI (t + 1), upd f' t (nI (G' t ||| if (G' t).testBit k = true then G' k else 0)))) := by
        unfold m_X10_reach_l79_2
        rw [h.1, if_neg (nI_ge q (by omega)), if_pos ib, if_pos ib, cl, cl2, e' t q, e' k hk, has10 (by omega) (by omega), Option.bind_some, nI_1]
        by_cases c : (G' t).testBit k = true
        · rw [if_pos c, if_pos c, if_neg (by decide), if_pos ib2, if_pos ib, nI_or]
        · rw [if_neg c, if_neg c, if_pos rfl, if_pos ib, ← nI_or]
          rfl
      rw [go]
      refine ⟨hN A - (t + 1), _, rfl, by omega, t + 1, fun p => if p = t then G' t ||| (if (G' t).testBit k = true then G' k else 0) else G' p, by omega, rfl, rfl, Eqn_upd e' rfl, fun p hp => ?_, fun p hp hp2 => ?_, fun p q' hp => ?_⟩
      · show (if p = t then _ else _) < _
        by_cases w : p = t
        · rw [if_pos w]
          refine or_lt x1 ?_
          by_cases c : (G' t).testBit k = true
          · rw [if_pos c]; exact x3
          · rw [if_neg c]; exact Nat.two_pow_pos _
        · rw [if_neg w]; exact lt' p hp
      · show (if p = t then _ else _) = _
        rw [if_neg (by omega)]
        exact up' p (by omega) hp2
      · show (if p = t then G' t ||| (if (G' t).testBit k = true then G' k else 0) else G' p).testBit q' = true ↔ _
        by_cases w : p = t
        · rw [if_pos w, or_bit, w, up' t (Nat.le_refl _) q]
          by_cases c : (G t).testBit k = true
          · rw [if_pos c, gk]
            exact ⟨fun a => a.elim Or.inl fun b => Or.inr ⟨c, b⟩, fun a => a.elim Or.inl fun b => Or.inr b.2⟩
          · rw [if_neg c, Nat.zero_testBit]
            exact ⟨fun a => a.elim Or.inl fun b => (by cases b), fun a => a.elim Or.inl fun b => absurd b.1 c⟩
        · rw [if_neg w]
          exact iff p q' (by omega)
    · refine Or.inr ⟨f', ?_, G', e', lt', fun p q' hp => iff p q' (by omega)⟩
      unfold m_X10_reach_l79_2
      rw [h.1, if_pos (nI_le q (by omega))]
  · exact ⟨0, G, Nat.zero_le _, rfl, rfl, e, lt, fun _ _ _ => rfl, fun p q hp => absurd hp (Nat.not_lt_zero p)⟩
theorem reach10 {s : T10} {A : Sh} (h : S10 s A) (hok : okS A) {T W : Nat} (hT : T < 2 ^ 12) (hTW : ∀ r, r < hU A → T.testBit r = !W.testBit r) : ∃ g, m_X10_reach s (nI T) = some g ∧ Eqn g (bls A W) (hN A) := by
  have n7 := hok.1.1
  have z1 : lp (fun z : Int32 × (Nat → Int32) => m_X10_reach_l2 z.1 z.2) fu ((0 : Int32), p10_beneath s) = some (fun j => if j < 7 then 0 else p10_beneath s j) := by
    refine lp_for (fun t => (nI t, fun j => if j < t then 0 else p10_beneath s j)) 7 (fun t ht => ?_) ?_ (by omega) ?_
    · simp only [m_X10_reach_l2]
      rw [if_neg (show ¬ (7 : Int32) ≤ nI t from nI_ge (b := 7) ht (by omega)), if_pos (inb_nI ht (by decide)), nI_clamp (by omega), nI_1]
      refine congrArg (fun z => some (Sum.inl (nI (t + 1), z))) (funext fun j => ?_)
      by_cases c : j = t
      · rw [c, upd_at, if_pos (by omega)]
      · rw [upd_ne c]
        by_cases c2 : j < t
        · rw [if_pos c2, if_pos (by omega)]
        · rw [if_neg c2, if_neg (by omega)]
    · simp only [m_X10_reach_l2]
      exact if_pos (show (7 : Int32) ≤ nI 7 by decide)
    · rfl
  obtain ⟨g1, y1, G1, e1, lt1, iff1⟩ := reach_a h hok hT hTW (f := fun j => if j < 7 then 0 else p10_beneath s j) (fun p hp => if_pos (by omega))
  have key : ∃ g, lp (fun z : Int32 × (Nat → Int32) => m_X10_reach_l69 s z.1 z.2) fu ((0 : Int32), g1) = some g ∧ Eqn g (bls A W) (hN A) := by
    refine lp_invf (I := fun d z => ∃ (k : Nat) (G : Nat → Nat), k ≤ hN A ∧ d = hN A - k ∧ z.1 = nI k ∧ Eqn z.2 G (hN A) ∧ (∀ p, p < hN A → G p < 2 ^ hN A) ∧ (∀ p q, p < hN A → (G p).testBit q = true → Und A W q p) ∧ (∀ p q, p < hN A → edg A W q p → (G p).testBit q = true) ∧ (∀ by', by' < k → ∀ p q, p < hN A → (G by').testBit q = true → (G p).testBit by' = true → (G p).testBit q = true)) (Q := _) ?_ (d := hN A) ?_ (by omega)
    · rintro d ⟨i, f'⟩ ⟨k, G, hk, hd, rfl, e, lt, so, ed, cl⟩
      simp only at e ⊢
      rcases Nat.lt_or_ge k (hN A) with q | q
      · refine Or.inl ?_
        obtain ⟨g, y2, G', e', lt', iff⟩ := reach_b h hok q e lt
        refine ⟨hN A - (k + 1), (nI (k + 1), g), ?_, by omega, k + 1, G', by omega, rfl, rfl, e', lt', fun p q' hp hq => ?_, fun p q' hp hq => ?_, fun c hc p q' hp h1 h2 => ?_⟩
        · unfold m_X10_reach_l69
          rw [h.1, if_neg (nI_ge q (by omega)), y2, Option.bind_some, nI_1]
        · rcases (iff p q' hp).mp hq with w | ⟨w1, w2⟩
          · exact so p q' hp w
          · exact Und_tr (so k q' q w2) (so p k hp w1)
        · exact (iff p q' hp).mpr (Or.inl (ed p q' hp hq))
        · rw [iff p q' hp]
          rw [iff p c hp] at h2
          rw [iff c q' (by omega)] at h1
          rcases Nat.lt_or_ge c k with w | w
          · rcases h1 with a | ⟨a1, a2⟩ <;> rcases h2 with b | ⟨b1, b2⟩
            · exact Or.inl (cl c w p q' hp a b)
            · exact Or.inr ⟨b1, cl c w k q' q a b2⟩
            · exact Or.inr ⟨cl c w p k hp a1 b, a2⟩
            · exact Or.inr ⟨b1, a2⟩
          · rw [show c = k by omega] at h1 h2
            have a1 : (G k).testBit q' = true := h1.elim id fun b => b.2
            have b1 : (G p).testBit k = true := h2.elim id fun b => b.1
            exact Or.inr ⟨b1, a1⟩
      · refine Or.inr ⟨f', ?_, fun p hp => ?_⟩
        · unfold m_X10_reach_l69
          rw [h.1, if_pos (nI_le q (by omega))]
        · show f' p = _
          rw [e p hp]
          refine congrArg nI (bits_iff (lt p hp) (bs_lt _ _) (fun q' hq => ?_))
          rw [bls_bit hok]
          refine ⟨so p q' hp, fun hu => ?_⟩
          refine hu (fun a b => b < hN A ∧ (b < hN A → (G b).testBit a = true)) ?_ ?_ |>.2 hp
          · intro x y hxy
            exact ⟨(Und_lt hok (Und_edg hxy)).2, fun hy => ed y x hy hxy⟩
          · intro x y z u1 u2
            exact ⟨u2.1, fun hz => cl y (by have := u1.1; omega) z x hz (u1.2 u1.1) (u2.2 hz)⟩
    · exact ⟨0, G1, Nat.zero_le _, rfl, rfl, e1, lt1, fun p q hp hq => Und_edg ((iff1 p q hp).mp hq), fun p q hp hq => (iff1 p q hp).mpr hq, fun b hb => absurd hb (Nat.not_lt_zero b)⟩
  obtain ⟨g, y3, y4⟩ := key
  refine ⟨g, ?_, y4⟩
  unfold m_X10_reach
  rw [z1, Option.bind_some, y1, Option.bind_some, y3, Option.bind_some]
theorem all10 {s : T10} {A : Sh} (h : S10 s A) (hok : okS A) : m_X10_allRules s = some (nI (2 ^ hU A - 1)) := by
  have n12 := hok.2.1.1
  unfold m_X10_allRules
  rw [h.2.2.1.1, nI_shl1 _ (by omega), nI_pred_of (Nat.two_pow_pos _)]
theorem all_bit {u r : Nat} (h : r < u) : (2 ^ u - 1).testBit r = true := by
  rw [Nat.testBit_two_pow_sub_one, decide_eq_true h]
theorem reachAll {s : T10} {A : Sh} (h : S10 s A) (hok : okS A) : ∃ g, m_X10_reach s (nI (2 ^ hU A - 1)) = some g ∧ Eqn g (bls A 0) (hN A) := by
  have := rules_lt hok
  exact reach10 h hok (W := 0) (by omega) (fun r hr => by rw [all_bit hr, Nat.zero_testBit]; rfl)
theorem isUnder10 {s : T10} {A : Sh} (h : S10 s A) (hok : okS A) {a b : Nat} (ha : a < hN A) (hb : b < hN A) : ∃ g, m_X10_isUnder s (nI a) (nI b) = some (if undB A 0 a b then 1 else 0, g) := by
  have n7 := hok.1.1
  have p7 := pow_le7 n7
  obtain ⟨g, g1, g2⟩ := reachAll h hok
  refine ⟨g, ?_⟩
  have lt : bls A 0 b < 2 ^ hN A := bs_lt _ _
  unfold m_X10_isUnder
  rw [all10 h hok, Option.bind_some, g1, Option.bind_some, if_pos (inb_nI (by omega) (by decide)), nI_clamp (by omega), g2 b hb, has10 (by omega) (by omega), Option.bind_some]
  have : (bls A 0 b).testBit a = undB A 0 a b := by
    unfold bls
    rw [bs_bit, decide_eq_true ha, Bool.true_and]
  rw [this]
