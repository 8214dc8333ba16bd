/-! judge, lays -/
theorem lp_rel {σ ρ σ' ρ' : Type} {f : σ → Option (σ ⊕ ρ)} {g : σ' → Option (σ' ⊕ ρ')} (I : Nat → σ → σ' → Prop) (Q : ρ → ρ' → Prop) (step : ∀ d s t, I d s t → (∃ d' s' t', f s = some (.inl s') ∧ g t = some (.inl t') ∧ d' < d ∧ I d' s' t') ∨ ∃ r r', f s = some (.inr r) ∧ g t = some (.inr r') ∧ Q r r') : ∀ (fuel d : Nat) (s : σ) (t : σ'), I d s t → d < fuel → ∃ r r', lp f fuel s = some r ∧ lp g fuel t = some r' ∧ Q r r' := by
  intro fuel
  induction fuel with
  | zero => intro d s t _ h; omega
  | succ n ih =>
    intro d s t hI hd
    rcases step d s t hI with ⟨d', s', t', h1, h2, h3, h4⟩ | ⟨r, r', h1, h2, h3⟩
    · rw [lp_inl h1, lp_inl h2]
      exact ih d' s' t' h4 (by omega)
    · exact ⟨r, r', lp_inr h1, lp_inr h2, h3⟩
theorem lp_relf {σ ρ σ' ρ' : Type} {f : σ → Option (σ ⊕ ρ)} {g : σ' → Option (σ' ⊕ ρ')} (I : Nat → σ → σ' → Prop) (Q : ρ → ρ' → Prop) (step : ∀ d s t, I d s t → (∃ d' s' t', f s = some (.inl s') ∧ g t = some (.inl t') ∧ d' < d ∧ I d' s' t') ∨ ∃ r r', f s = some (.inr r) ∧ g t = some (.inr r') ∧ Q r r') {d : Nat} {s : σ} {t : σ'} (h : I d s t) (hd : d < 300) : ∃ r r', lp f fu s = some r ∧ lp g fu t = some r' ∧ Q r r' := lp_rel I Q step fu d s t h hd
def vat (u d : Nat → Nat) (k : Nat) : Nat := if k % 2 = 0 then u (k / 2) else d (k / 2)
theorem halves : ∀ k, k < 14 → nI k / 2 = nI (k / 2) ∧ nI k - nI k / 2 * 2 = nI (k % 2) := by decide +kernel
theorem vat8 {s : T8} {A : Sh} {u d : Nat → Nat} (hok : okS A) (h : V9 s A u d) {k : Nat} (hk : k < 2 * hN A) : m_X8_partOf s (nI k / 2) (nI k - nI k / 2 * 2) = some (nI (vat u d k)).toInt64 := by
  have n7 := hok.1.1
  obtain ⟨e1, e2⟩ := halves k (by omega)
  rw [e2, e1, partOf8 hok h (by omega)]
  unfold vat
  by_cases c : k % 2 = 0
  · rw [c, if_pos (show nI 0 = 0 from rfl), if_pos rfl]
  · rw [if_neg (show ¬ nI (k % 2) = 0 from fun x => c (nI_inj (b := 0) (by omega) (by decide) x)), if_neg c]
theorem vat10 {s : T10} {A : Sh} {u d : Nat → Nat} (hok : okS A) (h1 : Eqn (p10_valueUp s) u (hN A)) (h2 : Eqn (p10_valueDown s) d (hN A)) {k : Nat} (hk : k < 2 * hN A) : m_X10_valueAt s (nI k) = some (nI (vat u d k)) := by
  have n7 := hok.1.1
  obtain ⟨e1, e2⟩ := halves k (by omega)
  have ib : inb (nI (k / 2)) 7 = true := inb_nI (by omega) (by decide)
  unfold m_X10_valueAt
  rw [e2, e1, if_pos ib, if_pos ib, nI_clamp (by omega), h1 _ (by omega), h2 _ (by omega)]
  unfold vat
  by_cases c : k % 2 = 0
  · rw [c, if_pos (show nI 0 = 0 from rfl), if_pos rfl]
  · rw [if_neg (show ¬ nI (k % 2) = 0 from fun x => c (nI_inj (b := 0) (by omega) (by decide) x)), if_neg c]
theorem hasPlace7 {s : T7} {j n x : Nat} (hj : j < 4) (h : p7_sizes s j = nI n) (hn : n < 2 ^ 31) (hx : x < 2 ^ 31) : m_X7_hasPlace s (nI j) (nI x) = some (if x < n then 1 else 0) := by
  unfold m_X7_hasPlace
  rw [if_neg (nI_pos hx), get_in hj (by decide), Option.bind_some, h]
  by_cases c : x < n
  · rw [if_neg (nI_ge c hn), if_pos c]
  · rw [if_pos (nI_le (by omega) hx), if_neg c]
theorem shelf_why {s9 : T9} {s10 : T10} (rH : RelH s9 s10) (x y : Int32) : (∃ l j n, l < 3 ∧ j < 4 ∧ n ≤ 20 ∧ x = nI l ∧ y = nI j ∧ m_X9_whyNoShelf s9 x y = some 0 ∧ m_X10_isLoss x = some 1 ∧ m_X10_isShelf y = some 1 ∧ p7_sizes (p9_shelves s9) j = nI n ∧ p10_places s10 j = nI n ∧ ∀ i, i < n → p7_cells (p9_shelves s9) (20 * j + i) = p10_cell s10 (20 * j + i)) ∨ (m_X9_whyNoShelf s9 x y = some (-2) ∧ m_X10_isLoss x = some 0) ∨ (m_X9_whyNoShelf s9 x y = some (-1) ∧ m_X10_isLoss x = some 1 ∧ m_X10_isShelf y = some 0) ∨ (∃ j, j < 4 ∧ y = nI j ∧ m_X9_whyNoShelf s9 x y = some (-11) ∧ m_X10_isLoss x = some 1 ∧ m_X10_isShelf y = some 1 ∧ p10_places s10 j = -1) := by
  unfold m_X9_whyNoShelf
  rcases loss_cases x with ⟨l, hl, hx, e9, e10⟩ | ⟨e9, e10⟩
  · rw [e9, Option.bind_some, if_neg (by decide)]
    rcases shelf_cases (p9_shelves s9) y with ⟨j, hj, hy, f9, f10⟩ | ⟨f9, f10⟩
    · rw [f9, Option.bind_some, if_neg (by decide), hy]
      have miss : m_X7_isMissing (p9_shelves s9) (nI j) = if p7_made (p9_shelves s9) j = 0 then some 1 else some 0 := by
        unfold m_X7_isMissing
        rw [get_in hj (by decide), Option.bind_some]
      rw [miss]
      rcases rH j hj with ⟨m1, m2⟩ | ⟨m1, n, hn, m2, m3, m4⟩
      · rw [if_pos m1, Option.bind_some, if_neg (by decide)]
        exact Or.inr (Or.inr (Or.inr ⟨j, hj, rfl, rfl, e10, by rw [← hy]; exact f10, m2⟩))
      · rw [if_neg (by rw [m1]; decide), Option.bind_some, if_pos rfl]
        exact Or.inl ⟨l, j, n, hl, hj, hn, hx, rfl, rfl, e10, by rw [← hy]; exact f10, m2, m3, m4⟩
    · rw [f9, Option.bind_some, if_pos rfl]
      exact Or.inr (Or.inr (Or.inl ⟨rfl, e10, f10⟩))
  · rw [e9, Option.bind_some, if_pos rfl]
    exact Or.inr (Or.inl ⟨rfl, e10⟩)
theorem counted_11 (s : T9) : m_X9_counted s (-11) = some (-11, p9_refusals s) := by
  unfold m_X9_counted
  rw [if_neg (by decide), if_pos (by decide)]
theorem op_judge : OP_judge Rel := by
  intro s9 s10 p1 p2 ⟨A, hok, h6, h10, rI, rL, rT, rH, rR, rS, rB⟩
  have n7 := hok.1.1
  have bad : ∀ (c : Int32) (k : Nat), k < 7 → -c = nI k → ¬ -1 < c → ¬ c < -6 → m_X9_judge s9 p1 p2 = (m_X9_counted s9 c).bind (fun x6 => some (x6.1, x6.2, cur0 (p9_byRules s9))) → m_X10_judge s10 p1 p2 = (m_X10_no s10 c).bind (fun x8 => some (x8.1, x8.2, cur10 s10)) → ∃ u v, m_X9_judge s9 p1 p2 = some u ∧ m_X10_judge s10 p1 p2 = some v ∧ u.1 = v.1 ∧ Rel (st_X9_judge s9 u) (st_X10_judge s10 v) := by
    intro c k hk hc c1 c2 e9 e10
    rw [counted_neg s9 c1 c2 hk hc, Option.bind_some] at e9
    rw [no10 s10 hk hc, Option.bind_some] at e10
    exact ⟨_, _, e9, e10, rfl, A, hok, h6, h10, rI, rL, rT, rH, Req_cnt rR hk, rS, rB⟩
  rcases shelf_why rH p1 p2 with ⟨l, j, n, hl, hj, hn, rfl, rfl, w9, w1, w2, z1, z2, z3⟩ | ⟨w9, w1⟩ | ⟨w9, w1, w2⟩ | ⟨j, hj, rfl, w9, w1, w2, z2⟩
  · obtain ⟨r, r1, r2, r3⟩ := rules9 h6 hok rB hl
    obtain ⟨q, q1, q2⟩ := rules10 h10 hok hl
    have ib : inb (nI j) 4 = true := inb_nI hj (by decide)
    have cl : (nI j).toNatClampNeg = j := nI_clamp (by omega)
    obtain ⟨a, b, a1, b1, rfl⟩ := lp_relf (f := fun z : Int32 => m_X7_judgeAll_l2 (p9_shelves s9) (stV (p9_byRules s9) r) (nI j) z) (g := fun z : Int32 => m_X10_judge_l50 s10 (nI j) q z) (I := fun d s t => s = t ∧ ∃ k, k ≤ 2 * hN A ∧ d = 2 * hN A - k ∧ s = nI k) (Q := fun r r' => r = r') (d := 2 * hN A) (s := 0) (t := 0) (by
      rintro d s t ⟨rfl, k, hk, hd, rfl⟩
      rcases Nat.lt_or_ge k (2 * hN A) with y | y
      · have g9 : m_X7_judgeAll_l2 (p9_shelves s9) (stV (p9_byRules s9) r) (nI j) (nI k) = if k < n then (if p7_cells (p9_shelves s9) (20 * j + k) = (nI (vat (vU A l 0) (vD A l 0) k)).toInt64 then some (.inl (nI (k + 1))) else some (.inr (.inr (.inl (nI k))))) else some (.inr (.inl (nI k))) := by
          unfold m_X7_judgeAll_l2 m_X8_paperCount
          rw [Option.bind_some, r2.1.2.2.2, show (2 : Int32) = nI 2 from rfl, nI_mul, if_neg (nI_ge y (by omega)), hasPlace7 hj z1 (by omega) (by omega), Option.bind_some]
          by_cases c : k < n
          · rw [if_pos c, if_neg (by decide), get7 (by omega), Option.bind_some, show nI 2 = (2 : Int32) from rfl, vat8 hok r2 y, Option.bind_some, if_pos c, nI_1]
          · rw [if_neg c, if_pos rfl, if_neg c]
        have g10 : m_X10_judge_l50 s10 (nI j) q (nI k) = if k < n then (if p10_cell s10 (20 * j + k) = (nI (vat (vU A l 0) (vD A l 0) k)).toInt64 then some (.inl (nI (k + 1))) else some (.inr (.inr (.inl (nI k))))) else some (.inr (.inl (nI k))) := by
          unfold m_X10_judge_l50
          rw [h10.1, show (2 : Int32) = nI 2 from rfl, nI_mul, if_neg (nI_ge y (by omega)), if_pos ib, cl, z2]
          by_cases c : k < n
          · rw [if_pos ((nI_lti (by omega) (by omega)).mpr c), if_pos c, cell10, if_pos (inb_nI (by omega) (by decide)), vat10 (s := stM s10 q) hok q2.2.1 q2.2.2 y, Option.bind_some, nI_clamp (by omega), nI_1]
          · rw [if_neg (fun x => c ((nI_lti (by omega) (by omega)).mp x)), if_neg c]
        rw [g9, g10]
        by_cases c : k < n
        · rw [if_pos c, if_pos c, z3 k c]
          by_cases c2 : p10_cell s10 (20 * j + k) = (nI (vat (vU A l 0) (vD A l 0) k)).toInt64
          · rw [if_pos c2]
            exact Or.inl ⟨2 * hN A - (k + 1), _, _, rfl, rfl, by omega, rfl, k + 1, by omega, rfl, rfl⟩
          · rw [if_neg c2]
            exact Or.inr ⟨_, _, rfl, rfl, rfl⟩
        · rw [if_neg c, if_neg c]
          exact Or.inr ⟨_, _, rfl, rfl, rfl⟩
      · refine Or.inr ⟨.inr (.inr ()), .inr (.inr ()), ?_, ?_, rfl⟩
        · unfold m_X7_judgeAll_l2 m_X8_paperCount
          rw [Option.bind_some, r2.1.2.2.2, show (2 : Int32) = nI 2 from rfl, nI_mul, if_pos (nI_le y (by omega))]
        · unfold m_X10_judge_l50
          rw [h10.1, show (2 : Int32) = nI 2 from rfl, nI_mul, if_pos (nI_le y (by omega))]) ⟨rfl, 0, Nat.zero_le _, rfl, rfl⟩ (by omega)
    have fin : ∀ x : Int32, m_X9_judge s9 (nI l) (nI j) = some (x, p9_refusals s9, r) → m_X10_judge s10 (nI l) (nI j) = some (x, p10_refusals s10, q) → ∃ u v, m_X9_judge s9 (nI l) (nI j) = some u ∧ m_X10_judge s10 (nI l) (nI j) = some v ∧ u.1 = v.1 ∧ Rel (st_X9_judge s9 u) (st_X10_judge s10 v) := fun x a b => ⟨_, _, a, b, rfl, Rel_q rI rL rT rH (by dsimp only [keep9q, st_X9_judge]) (by dsimp only [keep10, st_X10_judge]) hok (by dsimp only [st_X9_judge]; exact h6) (S10_mk h10 (by dsimp only [c10, st_X10_judge])) (by dsimp only [st_X9_judge, st_X10_judge]; exact rR) (by dsimp only [st_X9_judge]; exact rS) (by dsimp only [RelB, st_X9_judge]; exact r3)⟩
    have e9 : m_X9_judge s9 (nI l) (nI j) = (match a with | .inl x11 => some (100 + (x11 / 2)) | .inr (.inl x12) => some (x12 / 2) | .inr (.inr _) => some (-9)).bind (fun x3 => some (x3, p9_refusals s9, r)) := by
      unfold m_X9_judge m_X7_judgeAll
      rw [w9, Option.bind_some, if_pos rfl, r1, Option.bind_some, a1, Option.bind_some]
      rcases a with a | a | a <;> rfl
    have e10 : m_X10_judge s10 (nI l) (nI j) = (match a with | .inl x11 => some (100 + (x11 / 2)) | .inr (.inl x12) => some (x12 / 2) | .inr (.inr _) => some (-9)).bind (fun x3 => some (x3, p10_refusals s10, q)) := by
      unfold m_X10_judge
      rw [w1, Option.bind_some, if_neg (by decide), w2, Option.bind_some, if_neg (by decide), if_pos ib, cl, z2, if_pos (nI_pos' (by omega)), all10 h10 hok, Option.bind_some, q1, Option.bind_some, b1, Option.bind_some]
      rcases a with a | a | a <;> rfl
    rcases a with a | a | a
    · exact fin _ e9 e10
    · exact fin _ e9 e10
    · exact fin _ e9 e10
  · refine bad (-2) 2 (by decide) (by decide) (by decide) (by decide) ?_ ?_
    · unfold m_X9_judge
      rw [w9, Option.bind_some, if_neg (by decide)]
      rfl
    · unfold m_X10_judge
      rw [w1, Option.bind_some, if_pos rfl]
      rfl
  · refine bad (-1) 1 (by decide) (by decide) (by decide) (by decide) ?_ ?_
    · unfold m_X9_judge
      rw [w9, Option.bind_some, if_neg (by decide)]
      rfl
    · unfold m_X10_judge
      rw [w1, Option.bind_some, if_neg (by decide), w2, Option.bind_some, if_pos rfl]
      rfl
  · have ib : inb (nI j) 4 = true := inb_nI hj (by decide)
    have cl : (nI j).toNatClampNeg = j := nI_clamp (by omega)
    refine ⟨(-11, p9_refusals s9, cur0 (p9_byRules s9)), (-11, p10_refusals s10, cur10 s10), ?_, ?_, rfl, A, hok, h6, h10, rI, rL, rT, rH, rR, rS, rB⟩
    · unfold m_X9_judge
      rw [w9, Option.bind_some, if_neg (by decide), counted_11, Option.bind_some]
      rfl
    · unfold m_X10_judge
      rw [w1, Option.bind_some, if_neg (by decide), w2, Option.bind_some, if_neg (by decide), if_pos ib, cl, z2, if_neg (by decide)]
      rfl
