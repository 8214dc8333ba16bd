/-! THE PLAIN CALLS: papers, kinds, limits, ties, rows, the image -/
def cnt (f : Nat → Int32) (k : Nat) : Nat → Int32 := upd f k (f k + 1)
theorem Req_cnt {f g : Nat → Int32} (h : Req f g) {k : Nat} (hk : k < 7) : Req (cnt f k) (cnt g k) := by
  intro i hi
  unfold cnt
  by_cases e : i = k
  · subst e; rw [upd_at, upd_at, h i hi]
  · rw [upd_ne e, upd_ne e, h i hi]
theorem use9 (s : T9) {c : Int32} {k : Nat} (hk : k < 7) (hc : -c = nI k) : m_X9use s c = some (c, cnt (p9_refusals s) k) := by
  unfold m_X9use
  rw [hc, get_in hk (by decide), Option.bind_some, set_in hk (by decide), Option.bind_some]
  rfl
theorem no10 (s : T10) {c : Int32} {k : Nat} (hk : k < 7) (hc : -c = nI k) : m_X10_no s c = some (c, cnt (p10_refusals s) k) := by
  unfold m_X10_no
  rw [hc, if_pos (inb_nI hk (by decide)), if_pos (inb_nI hk (by decide)), nI_clamp (by omega)]
  rfl
theorem counted_pos (s : T9) {a : Nat} (h : a < 2 ^ 31) : m_X9_counted s (nI a) = some (nI a, p9_refusals s) := by
  unfold m_X9_counted
  rw [if_pos]
  rw [i_lt, nI_toInt h, show (-1 : Int32).toInt = -1 from rfl]
  omega
theorem counted_neg (s : T9) {c : Int32} {k : Nat} (h1 : ¬ -1 < c) (h2 : ¬ c < -6) (hk : k < 7) (hc : -c = nI k) : m_X9_counted s c = some (c, cnt (p9_refusals s) k) := by
  unfold m_X9_counted
  rw [if_neg h1, if_neg h2, use9 s hk hc, Option.bind_some]
theorem sub1_int {n : Nat} (h : n < 2 ^ 31) : (nI n - 1).toInt = (n : Int) - 1 := by
  rw [Int32.toInt_sub, nI_toInt h, show (1 : Int32).toInt = 1 from rfl, Int.bmod_eq_of_le (by omega) (by omega)]
theorem in10 (x lo hi : Int32) : m_X10_in x lo hi = some (if lo.toInt ≤ x.toInt ∧ x.toInt ≤ hi.toInt then 1 else 0) := by
  unfold m_X10_in
  by_cases c : x < lo
  · rw [if_pos c, if_neg]
    rw [i_lt] at c; omega
  · rw [if_neg c]
    rw [i_lt] at c
    by_cases c2 : hi < x
    · rw [if_pos c2, if_neg]
      rw [i_lt] at c2; omega
    · rw [if_neg c2, if_pos]
      rw [i_lt] at c2; omega
theorem paper_cases {s : T6} {t : T10} {A : Sh} (h6 : S6 s A) (h10 : S10 t A) (hok : okS A) (x : Int32) : (∃ p, p < hN A ∧ x = nI p ∧ m_X6_hasPaper s x = some 1 ∧ m_X10_isPaper t x = some 1) ∨ (m_X6_hasPaper s x = some 0 ∧ m_X10_isPaper t x = some 0) := by
  have n7 := hok.1.1
  unfold m_X6_hasPaper m_X10_isPaper
  rw [in10, h6.1, h10.1, sub1_int (by omega), show (0 : Int32).toInt = 0 from rfl]
  by_cases c : 0 ≤ x.toInt ∧ x.toInt ≤ (hN A : Int) - 1
  · refine Or.inl ⟨x.toInt.toNat, by omega, nI_ofInt c.1, ?_, ?_⟩
    · rw [if_neg, if_neg]
      · rw [i_le, nI_toInt (by omega)]; omega
      · rw [i_lt, show (0 : Int32).toInt = 0 from rfl]; omega
    · rw [if_pos c, Option.bind_some]
  · refine Or.inr ⟨?_, by rw [if_neg c, Option.bind_some]⟩
    by_cases c1 : x < 0
    · rw [if_pos c1]
    · rw [if_neg c1, if_pos]
      rw [i_lt, show (0 : Int32).toInt = 0 from rfl] at c1
      rw [i_le, nI_toInt (by omega)]; omega
theorem rule_cases {s : T6} {t : T10} {A : Sh} (h6 : S6 s A) (h10 : S10 t A) (hok : okS A) (x : Int32) : (∃ p, p < hU A ∧ x = nI p ∧ m_X6_hasRule s x = some 1 ∧ m_X10_isRule t x = some 1) ∨ (m_X6_hasRule s x = some 0 ∧ m_X10_isRule t x = some 0) := by
  have n7 := hok.2.1.1
  unfold m_X6_hasRule m_X10_isRule
  rw [in10, h6.2.2.1.1, h10.2.2.1.1, sub1_int (by omega), show (0 : Int32).toInt = 0 from rfl]
  by_cases c : 0 ≤ x.toInt ∧ x.toInt ≤ (hU A : Int) - 1
  · refine Or.inl ⟨x.toInt.toNat, by omega, nI_ofInt c.1, ?_, ?_⟩
    · rw [if_neg, if_neg]
      · rw [i_le, nI_toInt (by omega)]; omega
      · rw [i_lt, show (0 : Int32).toInt = 0 from rfl]; omega
    · rw [if_pos c, Option.bind_some]
  · refine Or.inr ⟨?_, by rw [if_neg c, Option.bind_some]⟩
    by_cases c1 : x < 0
    · rw [if_pos c1]
    · rw [if_neg c1, if_pos]
      rw [i_lt, show (0 : Int32).toInt = 0 from rfl] at c1
      rw [i_le, nI_toInt (by omega)]; omega
theorem Eqn_upd {f : Nat → Int32} {g : Nat → Nat} {n k : Nat} {x : Int32} {v : Nat} (h : Eqn f g n) (hx : x = nI v) : Eqn (upd f k x) (fun j => if j = k then v else g j) n := by
  intro i hi
  by_cases e : i = k
  · subst e; rw [upd_at, hx]; simp
  · rw [upd_ne e, h i hi]; simp [e]
theorem Eqn_push {f : Nat → Int32} {g : Nat → Nat} {n : Nat} {x : Int32} {v : Nat} (h : Eqn f g n) (hx : x = nI v) : Eqn (upd f n x) (fun j => if j = n then v else g j) (n + 1) := by
  intro i hi
  by_cases e : i = n
  · subst e; rw [upd_at, hx]; simp
  · rw [upd_ne e, h i (by omega)]; simp [e]
theorem Eqn_less {f : Nat → Int32} {g : Nat → Nat} {n m : Nat} (h : Eqn f g n) (hm : m ≤ n) : Eqn f g m := fun i hi => h i (by omega)
/-- a number of 0 .. m -/
theorem num_of {x : Int32} {m : Nat} (h1 : 0 ≤ x.toInt) (h2 : x.toInt ≤ m) : ∃ v, v ≤ m ∧ x = nI v := ⟨x.toInt.toNat, by omega, nI_ofInt h1⟩
theorem z32 : (0 : Int32).toInt = 0 := rfl
/-- one more paper -/
def aPaper (A : Sh) (v : Nat) : Sh := (hN A + 1, fun j => if j = hN A then v else hR A j, fun j => if j = hN A then 0 else hK A j, fun j => if j = hN A then 0 else hF A j, fun j => if j = hN A then 1 else hH A j, fun j => if j = hN A then hN A else hP A j, hU A, hL A, hO A, hB A, hM A, hT A)
theorem okPaper {A : Sh} (hok : okS A) {v : Nat} (hn : hN A < 7) (hv : v ≤ 99) : okS (aPaper A v) := by
  obtain ⟨⟨h1, h2⟩, ⟨h3, h4⟩, h5⟩ := hok
  refine ⟨⟨by show hN A + 1 ≤ 7; omega, fun p hp => ?_⟩, ⟨h3, fun r hr => ?_⟩, h5⟩
  · have hp : p < hN A + 1 := hp
    show (if p = hN A then v else hR A p) ≤ 99 ∧ (if p = hN A then 0 else hK A p) ≤ 5 ∧ (if p = hN A then 0 else hF A p) ≤ 9 ∧ (1 ≤ (if p = hN A then 1 else hH A p) ∧ (if p = hN A then 1 else hH A p) ≤ 9) ∧ (if p = hN A then hN A else hP A p) ≤ 9
    by_cases e : p = hN A
    · simp only [if_pos e]
      omega
    · have := h2 p (by omega)
      simp only [if_neg e]
      exact this
  · obtain ⟨q1, q2, q3⟩ := h4 r hr
    exact ⟨Nat.lt_succ_of_lt q1, Nat.lt_succ_of_lt q2, q3⟩
theorem addPaper6 {s : T6} {A : Sh} (h : S6 s A) (hn : hN A < 7) {v : Nat} (hv : v ≤ 99) : ∃ u, m_X6_addPaper s (nI v) = some u ∧ u.1 = nI (hN A) ∧ S6 (u6_papers u.2.2.2.2.2.2 (u6_places u.2.2.2.2.2.1 (u6_heavies u.2.2.2.2.1 (u6_figures u.2.2.2.1 (u6_kinds u.2.2.1 (u6_raws u.2.1 s)))))) (aPaper A v) := by
  obtain ⟨h1, ⟨h2, h3, h4, h5, h6⟩, h7, h8, h9⟩ := h
  refine ⟨(nI (hN A), upd (p6_raws s) (hN A) (nI v), upd (p6_kinds s) (hN A) 0, upd (p6_figures s) (hN A) 0, upd (p6_heavies s) (hN A) 1, upd (p6_places s) (hN A) (nI (hN A)), nI (hN A + 1)), ?_, rfl, ?_⟩
  · unfold m_X6_addPaper
    rw [if_pos (nI_pos' (by omega)), if_neg (by rw [i_lt, nI_toInt (by omega), show (99 : Int32).toInt = 99 from rfl]; omega), h1, if_pos (by rw [i_lt, nI_toInt (by omega), show (7 : Int32).toInt = 7 from rfl]; omega)]
    simp only [set_in hn (show (7 : Nat) < 2 ^ 31 by decide), Option.bind_some, nI_1, nI_pred]
  · exact ⟨rfl, ⟨Eqn_push h2 rfl, Eqn_push h3 rfl, Eqn_push h4 rfl, Eqn_push h5 rfl, Eqn_push h6 rfl⟩, h7, h8, h9⟩
theorem op_paper : OP_paper Rel := by
  intro s9 s10 p1 ⟨A, hok, h6, h10, hI, hL, hT, hH, hR, hS, hB⟩
  have n7 := hok.1.1
  by_cases c1 : 0 ≤ p1
  · have c1' := c1
    rw [i_le, z32] at c1'
    by_cases c2 : 99 < p1 ∨ hN A = 7
    · -- no room
      refine ⟨(-6, p6_raws (p9_now s9), p6_kinds (p9_now s9), p6_figures (p9_now s9), p6_heavies (p9_now s9), p6_places (p9_now s9), p6_papers (p9_now s9), cnt (p9_refusals s9) 6), (-6, p10_papers s10, p10_raw s10, p10_kind s10, p10_figure s10, p10_heavy s10, p10_place s10, cnt (p10_refusals s10) 6), ?_, ?_, rfl, A, hok, h6, h10, hI, hL, hT, hH, Req_cnt hR (by decide), hS, hB⟩
      · have e : m_X6_addPaper (p9_now s9) p1 = some (-6, p6_raws (p9_now s9), p6_kinds (p9_now s9), p6_figures (p9_now s9), p6_heavies (p9_now s9), p6_places (p9_now s9), p6_papers (p9_now s9)) := by
          unfold m_X6_addPaper
          rw [if_pos c1]
          by_cases c3 : 99 < p1
          · rw [if_pos c3]
          · rw [if_neg c3, h6.1, if_neg]
            rw [i_lt, nI_toInt (by omega), show (7 : Int32).toInt = 7 from rfl]
            rcases c2 with c | c
            · exact absurd c c3
            · omega
        unfold m_X9_paper
        rw [e, Option.bind_some, counted_neg (k := 6) (c := -6) _ (by decide) (by decide) (by decide) (by decide), Option.bind_some]
      · unfold m_X10_paper
        rw [if_pos c1]
        have e : (if 99 < p1 then (some (.inl ((p10_papers s10), (p10_raw s10), (p10_kind s10), (p10_figure s10), (p10_heavy s10), (p10_place s10))) : Option ((Int32 × (Nat → Int32) × (Nat → Int32) × (Nat → Int32) × (Nat → Int32) × (Nat → Int32)) ⊕ (Int32 × Int32 × (Nat → Int32) × (Nat → Int32) × (Nat → Int32) × (Nat → Int32) × (Nat → Int32) × (Nat → Int32)))) else (if (p10_papers s10) = 7 then some (.inl ((p10_papers s10), (p10_raw s10), (p10_kind s10), (p10_figure s10), (p10_heavy s10), (p10_place s10))) else none)) = some (.inl ((p10_papers s10), (p10_raw s10), (p10_kind s10), (p10_figure s10), (p10_heavy s10), (p10_place s10))) := by
          by_cases c3 : 99 < p1
          · rw [if_pos c3]
          · rw [if_neg c3, if_pos]
            rcases c2 with c | c
            · exact absurd c c3
            · rw [h10.1, c]; rfl
        by_cases c3 : 99 < p1
        · rw [if_pos c3]
          simp only [Option.bind_some]
          rw [no10 (k := 6) _ (by decide) (by decide), Option.bind_some]
        · have c7 : p10_papers s10 = 7 := by
            rcases c2 with c | c
            · exact absurd c c3
            · rw [h10.1, c]; rfl
          rw [if_neg c3, if_pos c7]
          simp only [Option.bind_some]
          rw [no10 (k := 6) _ (by decide) (by decide), Option.bind_some]
    · have c3 : ¬ 99 < p1 := fun h => c2 (Or.inl h)
      have c4 : hN A < 7 := by
        rcases Nat.lt_or_ge (hN A) 7 with h | h
        · exact h
        · exact absurd (Or.inr (by omega)) c2
      have c5 := c3
      rw [i_lt, show (99 : Int32).toInt = 99 from rfl] at c5
      obtain ⟨v, hv, rfl⟩ := num_of (m := 99) c1' (by omega)
      obtain ⟨u, e1, e2, e3⟩ := addPaper6 h6 c4 hv
      refine ⟨(nI (hN A), u.2.1, u.2.2.1, u.2.2.2.1, u.2.2.2.2.1, u.2.2.2.2.2.1, u.2.2.2.2.2.2, p9_refusals s9), (nI (hN A), nI (hN A + 1), upd (p10_raw s10) (hN A) (nI v), upd (p10_kind s10) (hN A) 0, upd (p10_figure s10) (hN A) 0, upd (p10_heavy s10) (hN A) 1, upd (p10_place s10) (hN A) (nI (hN A)), p10_refusals s10), ?_, ?_, rfl, Rel_mk hI hL hT hH hS hB (by dsimp only [keep9, st_X9_paper, u9_refusals, u9_now, p9_kept, p9_isKept, p9_letters, p9_told, p9_toldCount, p9_shelves, p9_said, p9_byRules]) (by dsimp only [keep10, st_X10_paper, u10_refusals, u10_place, u10_heavy, u10_figure, u10_kind, u10_raw, u10_papers, p10_hasImage, p10_imaged, p10_letters, p10_letter, p10_tolds, p10_told, p10_places, p10_cell]) (okPaper hok c4 hv) e3 ?_ (by dsimp only [st_X9_paper, st_X10_paper, u9_refusals, p9_refusals, u10_refusals, p10_refusals]; exact hR)⟩
      · unfold m_X9_paper
        rw [e1, Option.bind_some, e2, counted_pos _ (by omega), Option.bind_some]
      · have c7 : ¬ p10_papers s10 = 7 := by rw [h10.1, i_eq, nI_toInt (by omega), show (7 : Int32).toInt = 7 from rfl]; omega
        have ib : inb (p10_papers s10) 7 = true := by rw [h10.1]; exact inb_nI c4 (by decide)
        unfold m_X10_paper
        rw [if_pos c1, if_neg c3, if_neg c7]
        simp only [ib, if_true, Option.bind_some]
        rw [h10.1, nI_clamp (by omega), nI_1, nI_pred]
      · obtain ⟨h1, ⟨h2, h3, h4, h5, h6'⟩, h7, h8, h9⟩ := h10
        exact ⟨rfl, ⟨Eqn_push h2 rfl, Eqn_push h3 rfl, Eqn_push h4 rfl, Eqn_push h5 rfl, Eqn_push h6' rfl⟩, h7, h8, h9⟩
  · refine ⟨(-4, p6_raws (p9_now s9), p6_kinds (p9_now s9), p6_figures (p9_now s9), p6_heavies (p9_now s9), p6_places (p9_now s9), p6_papers (p9_now s9), cnt (p9_refusals s9) 4), (-4, p10_papers s10, p10_raw s10, p10_kind s10, p10_figure s10, p10_heavy s10, p10_place s10, cnt (p10_refusals s10) 4), ?_, ?_, rfl, A, hok, h6, h10, hI, hL, hT, hH, Req_cnt hR (by decide), hS, hB⟩
    · unfold m_X9_paper m_X6_addPaper
      rw [if_neg c1, Option.bind_some, counted_neg (k := 4) (c := -4) _ (by decide) (by decide) (by decide) (by decide), Option.bind_some]
    · unfold m_X10_paper
      rw [if_neg c1, no10 (k := 4) _ (by decide) (by decide), Option.bind_some]
