/-! free: a rule goes, those behind it move up -/
theorem nI_pred_of {n : Nat} (h : 1 ≤ n) : nI n - 1 = nI (n - 1) := nI_sub (b := 1) h
def mvd (f : Nat → Nat) (p : Nat) : Nat → Nat := fun j => if j < p then f j else f (j + 1)
theorem removed {N p : Nat} {f : Nat → Int32} (hp : p < N) (hN : N < 300) : ∃ r, m_X2_removeAt N f (nI p) = some r ∧ ∀ j, j + 1 < N → r j = if j < p then f j else f (j + 1) := by
  have key : lp (fun z : Int32 × (Nat → Int32) => m_X2_removeAt_l2 N z.1 z.2) fu (nI p, f) = some (fun j => if p ≤ j ∧ j < p + (N - p) then (if j + 1 < N then f (j + 1) else 0) else f j) := by
    refine lp_for (fun k => (nI (p + k), fun j => if p ≤ j ∧ j < p + k then (if j + 1 < N then f (j + 1) else 0) else f j)) (N - p) (fun k hk => ?_) ?_ (by omega) ?_
    · simp only [m_X2_removeAt_l2]
      have e : m_X2_get N (fun j => if p ≤ j ∧ j < p + k then (if j + 1 < N then f (j + 1) else 0) else f j) (nI (p + k) + 1) = some (if p + k + 1 < N then f (p + k + 1) else 0) := by
        rw [nI_1]
        by_cases c : p + k + 1 < N
        · rw [get_in c (by omega), if_pos c, if_neg (by omega)]
        · rw [get_out (by omega) (by rw [nI_toInt (by omega)]; omega), if_neg c]
      rw [if_neg (nI_ge (by omega) (by omega)), e, Option.bind_some, set_in (by omega) (by omega), Option.bind_some, nI_1]
      congr 3
      funext j
      by_cases q : j = p + k
      · subst q
        rw [upd_at, if_pos (show p ≤ p + k ∧ p + k < p + (k + 1) by omega)]
      · rw [upd_ne q]
        by_cases q2 : p ≤ j ∧ j < p + k
        · simp only [if_pos q2, if_pos (show p ≤ j ∧ j < p + (k + 1) by omega)]
        · rw [if_neg q2, if_neg (by omega)]
    · simp only [m_X2_removeAt_l2]
      rw [if_pos (nI_le (by omega) (by omega))]
    · refine congrArg (Prod.mk (nI p)) (funext fun j => ?_)
      rw [if_neg (by omega)]
  refine ⟨_, by unfold m_X2_removeAt; rw [key, Option.bind_some], fun j hj => ?_⟩
  show (if p ≤ j ∧ j < p + (N - p) then (if j + 1 < N then f (j + 1) else 0) else f j) = _
  by_cases q : j < p
  · rw [if_neg (by omega), if_pos q]
  · rw [if_pos (by omega), if_pos hj, if_neg q]
def aFree (A : Sh) (p : Nat) : Sh := (hN A, hR A, hK A, hF A, hH A, hP A, hU A - 1, mvd (hL A) p, mvd (hO A) p, hB A, hM A, hT A)
theorem okFree {A : Sh} (hok : okS A) {p : Nat} (hp : p < hU A) : okS (aFree A p) := by
  obtain ⟨h1, ⟨h3, h4⟩, h5⟩ := hok
  refine ⟨h1, ⟨by show hU A - 1 ≤ 12; omega, fun r hr => ?_⟩, h5⟩
  have hr : r < hU A - 1 := hr
  show mvd (hL A) p r < hN A ∧ mvd (hO A) p r < hN A ∧ mvd (hL A) p r ≠ mvd (hO A) p r
  unfold mvd
  by_cases q : r < p
  · simp only [if_pos q]; exact h4 r (by omega)
  · simp only [if_neg q]; exact h4 (r + 1) (by omega)
theorem op_free : OP_free Rel := by
  intro s9 s10 p1 ⟨A, hok, h6, h10, rI, rL, rT, rH, rR, rS, rB⟩
  have n12 := hok.2.1.1
  rcases rule_cases h6 h10 hok p1 with ⟨p, hp, rfl, e6, e10⟩ | ⟨e6, e10⟩
  · obtain ⟨a1, a2, ⟨a3, a4, a5⟩, a6⟩ := id h6
    obtain ⟨b1, b2, ⟨b3, b4, b5⟩, b6⟩ := id h10
    obtain ⟨r1, f1, g1⟩ := removed (N := 12) (p := p) (f := p6_lowers (p9_now s9)) (by omega) (by decide)
    obtain ⟨r2, f2, g2⟩ := removed (N := 12) (p := p) (f := p6_uppers (p9_now s9)) (by omega) (by decide)
    have key : lp (fun z : Int32 × (Nat → Int32) × (Nat → Int32) => m_X10_free_l26 s10 z.1 z.2.1 z.2.2) fu (nI p, p10_lower s10, p10_upper s10) = some ((fun j => if p ≤ j ∧ j < p + (hU A - 1 - p) then p10_lower s10 (j + 1) else p10_lower s10 j), (fun j => if p ≤ j ∧ j < p + (hU A - 1 - p) then p10_upper s10 (j + 1) else p10_upper s10 j)) := by
      have mv : ∀ (f : Nat → Int32) (k : Nat), upd (fun j => if p ≤ j ∧ j < p + k then f (j + 1) else f j) (p + k) (f (p + k + 1)) = (fun j => if p ≤ j ∧ j < p + (k + 1) then f (j + 1) else f j) := by
        intro f k
        funext j
        by_cases q : j = p + k
        · subst q
          rw [upd_at, if_pos (show p ≤ p + k ∧ p + k < p + (k + 1) by omega)]
        · rw [upd_ne q]
          by_cases q2 : p ≤ j ∧ j < p + k
          · rw [if_pos q2, if_pos (by omega)]
          · rw [if_neg q2, if_neg (by omega)]
      have at1 : ∀ (f : Nat → Int32) (k : Nat), (fun j => if p ≤ j ∧ j < p + k then f (j + 1) else f j) (p + k + 1) = f (p + k + 1) := fun f k => if_neg (by omega)
      refine lp_for (fun k => (nI (p + k), (fun j => if p ≤ j ∧ j < p + k then p10_lower s10 (j + 1) else p10_lower s10 j), (fun j => if p ≤ j ∧ j < p + k then p10_upper s10 (j + 1) else p10_upper s10 j))) (hU A - 1 - p) (fun k hk => ?_) ?_ (by omega) ?_
      · have ib1 : inb (nI (p + k + 1)) 12 = true := inb_nI (by omega) (by decide)
        have ib2 : inb (nI (p + k)) 12 = true := inb_nI (by omega) (by decide)
        unfold m_X10_free_l26
        rw [b3, nI_pred_of (show 1 ≤ hU A by omega), if_neg (nI_ge (by omega) (by omega)), nI_1]
        rw [if_pos ib1, if_pos ib2, if_pos ib1, if_pos ib2, nI_clamp (by omega), nI_clamp (by omega)]
        have m1 := mv (p10_lower s10) k
        have m2 := mv (p10_upper s10) k
        rw [← at1 (p10_lower s10) k] at m1
        rw [← at1 (p10_upper s10) k] at m2
        exact congrArg (fun z => some (Sum.inl z)) (Prod.ext rfl (Prod.ext m1 m2))
      · unfold m_X10_free_l26
        rw [b3, nI_pred_of (show 1 ≤ hU A by omega), if_pos (nI_le (by omega) (by omega))]
      · refine congrArg (Prod.mk (nI p)) (Prod.ext (funext fun j => ?_) (funext fun j => ?_))
        · show _ = if p ≤ j ∧ j < p + 0 then _ else _
          rw [if_neg (by omega)]
        · show _ = if p ≤ j ∧ j < p + 0 then _ else _
          rw [if_neg (by omega)]
    refine ⟨(nI (hU A - 1), r1, r2, nI (hU A - 1), p9_refusals s9), (nI (hU A - 1), nI (hU A - 1), (fun j => if p ≤ j ∧ j < p + (hU A - 1 - p) then p10_lower s10 (j + 1) else p10_lower s10 j), (fun j => if p ≤ j ∧ j < p + (hU A - 1 - p) then p10_upper s10 (j + 1) else p10_upper s10 j), p10_refusals s10), ?_, ?_, rfl, Rel_mk rI rL rT rH rS rB (by dsimp only [keep9, st_X9_free, u9_refusals, u9_now, p9_kept, p9_isKept, p9_letters, p9_told, p9_toldCount, p9_shelves, p9_said, p9_byRules]) (by dsimp only [keep10, st_X10_free, u10_refusals, u10_upper, u10_lower, u10_rules, p10_hasImage, p10_imaged, p10_letters, p10_letter, p10_tolds, p10_told, p10_places, p10_cell]) (A := aFree A p) (okFree hok hp) ?_ ?_ (by dsimp only [st_X9_free, st_X10_free, u9_refusals, p9_refusals, u10_refusals, p10_refusals]; exact rR)⟩
    · unfold m_X9_free m_X6_takeRule
      rw [e6]
      simp only [Option.bind_some]
      rw [if_neg (by decide), f1, f2]
      simp only [Option.bind_some]
      rw [a3, nI_pred_of (show 1 ≤ hU A by omega), counted_pos _ (by omega), Option.bind_some]
    · unfold m_X10_free
      rw [e10]
      simp only [Option.bind_some]
      rw [if_neg (by decide), key, Option.bind_some, b3, nI_pred_of (show 1 ≤ hU A by omega)]
    · refine ⟨a1, a2, ⟨rfl, fun i hi => ?_, fun i hi => ?_⟩, a6⟩
      · have hi : i < hU A - 1 := hi
        show r1 i = nI (mvd (hL A) p i)
        unfold mvd
        rw [g1 i (by omega)]
        by_cases q : i < p
        · rw [if_pos q, if_pos q, a4 i (by omega)]
        · rw [if_neg q, if_neg q, a4 (i + 1) (by omega)]
      · have hi : i < hU A - 1 := hi
        show r2 i = nI (mvd (hO A) p i)
        unfold mvd
        rw [g2 i (by omega)]
        by_cases q : i < p
        · rw [if_pos q, if_pos q, a5 i (by omega)]
        · rw [if_neg q, if_neg q, a5 (i + 1) (by omega)]
    · refine ⟨b1, b2, ⟨rfl, fun i hi => ?_, fun i hi => ?_⟩, b6⟩
      · have hi : i < hU A - 1 := hi
        show (if p ≤ i ∧ i < p + (hU A - 1 - p) then p10_lower s10 (i + 1) else p10_lower s10 i) = nI (mvd (hL A) p i)
        unfold mvd
        by_cases q : i < p
        · rw [if_neg (by omega), if_pos q, b4 i (by omega)]
        · rw [if_pos (by omega), if_neg q, b4 (i + 1) (by omega)]
      · have hi : i < hU A - 1 := hi
        show (if p ≤ i ∧ i < p + (hU A - 1 - p) then p10_upper s10 (i + 1) else p10_upper s10 i) = nI (mvd (hO A) p i)
        unfold mvd
        by_cases q : i < p
        · rw [if_neg (by omega), if_pos q, b5 i (by omega)]
        · rw [if_pos (by omega), if_neg q, b5 (i + 1) (by omega)]
  · refine ⟨(-1, p6_lowers (p9_now s9), p6_uppers (p9_now s9), p6_rules (p9_now s9), cnt (p9_refusals s9) 1), (-1, p10_rules s10, p10_lower s10, p10_upper s10, cnt (p10_refusals s10) 1), ?_, ?_, rfl, A, hok, h6, h10, rI, rL, rT, rH, Req_cnt rR (by decide), rS, rB⟩
    · unfold m_X9_free m_X6_takeRule
      rw [e6]
      simp only [Option.bind_some]
      rw [if_pos trivial]
      simp only [Option.bind_some]
      rw [counted_neg (k := 1) (c := -1) _ (by decide) (by decide) (by decide) (by decide), Option.bind_some]
    · unfold m_X10_free
      rw [e10]
      simp only [Option.bind_some]
      rw [if_pos trivial, no10 (k := 1) _ (by decide) (by decide), Option.bind_some]
