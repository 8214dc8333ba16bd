/-! under, rule -/
/-- what makes the sheet of the reference -/
def c10 (s : T10) : Int32 × (Nat → Int32) × (Nat → Int32) × (Nat → Int32) × (Nat → Int32) × (Nat → Int32) × Int32 × (Nat → Int32) × (Nat → Int32) × Int32 × (Nat → Int32) × Int32 := (p10_papers s, p10_raw s, p10_kind s, p10_figure s, p10_heavy s, p10_place s, p10_rules s, p10_lower s, p10_upper s, p10_limits s, p10_limit s, p10_ties s)
theorem S10_mk {s t : T10} {A : Sh} (h : S10 s A) (e : c10 t = c10 s) : S10 t A := by
  simp only [c10, Prod.mk.injEq] at e
  obtain ⟨e1, e2, e3, e4, e5, e6, e7, e8, e9, e10, e11, e12⟩ := e
  unfold S10
  rw [e1, e2, e3, e4, e5, e6, e7, e8, e9, e10, e11, e12]
  exact h
theorem S6_reached {s : T6} {A : Sh} (h : S6 s A) (g : Nat → Int32) : S6 (u6_reached g s) A := by
  obtain ⟨a1, ⟨a2, a3, a4, a5, a6⟩, ⟨a7, a8, a9⟩, ⟨b1, b2⟩, b3⟩ := h
  exact ⟨a1, ⟨a2, a3, a4, a5, a6⟩, ⟨a7, a8, a9⟩, ⟨b1, b2⟩, b3⟩
/-- what a question leaves alone -/
def keep9q (s : T9) : T6 × Int32 × T3 × (Nat → Int32) × Int32 × T7 := (p9_kept s, p9_isKept s, p9_letters s, p9_told s, p9_toldCount s, p9_shelves s)
theorem Rel_q {s9 s9' : T9} {s10 s10' : T10} (rI : RelI s9 s10) (rL : RelL s9 s10) (rT : RelT s9 s10) (rH : RelH s9 s10) (k9 : keep9q s9' = keep9q s9) (k10 : keep10 s10' = keep10 s10) {A : Sh} (hok : okS A) (h6 : S6 (p9_now s9') A) (h10 : S10 s10' A) (rR : Req (p9_refusals s9') (p10_refusals s10')) (rS : sbInv (p9_said s9')) (rB : RelB s9') : Rel s9' s10' := by
  simp only [keep9q, keep10, Prod.mk.injEq] at k9 k10
  obtain ⟨a1, a2, a3, a4, a5, a6⟩ := k9
  obtain ⟨b1, b2, b3, b4, b5, b6, b7, b8⟩ := k10
  refine ⟨A, hok, h6, h10, ?_, ?_, ?_, ?_, rR, rS, rB⟩
  · unfold RelI
    rw [a1, a2, b1, b2]
    exact rI
  · unfold RelL
    rw [a3, b3, b4]
    exact rL
  · unfold RelT
    rw [a4, a5, b5, b6]
    exact rT
  · unfold RelH
    rw [a6, b7, b8]
    exact rH
theorem two_cases {s : T6} {t : T10} {A : Sh} (h6 : S6 s A) (h10 : S10 t A) (hok : okS A) (x y : Int32) : (∃ a b, a < hN A ∧ b < hN A ∧ a ≠ b ∧ x = nI a ∧ y = nI b ∧ m_X6_areTwo s x y = some 1 ∧ m_X10_isPaper t x = some 1 ∧ m_X10_isPaper t y = some 1 ∧ x ≠ y) ∨ (m_X6_areTwo s x y = some 0 ∧ (m_X10_isPaper t x = some 0 ∨ (m_X10_isPaper t x = some 1 ∧ m_X10_isPaper t y = some 0) ∨ (m_X10_isPaper t x = some 1 ∧ m_X10_isPaper t y = some 1 ∧ x = y))) := by
  unfold m_X6_areTwo
  rcases paper_cases h6 h10 hok x with ⟨a, ha, e1, e2, e3⟩ | ⟨e2, e3⟩
  · rcases paper_cases h6 h10 hok y with ⟨b, hb, f1, f2, f3⟩ | ⟨f2, f3⟩
    · rw [e2, Option.bind_some, if_neg (by decide), f2, Option.bind_some, if_neg (by decide)]
      by_cases c : x = y
      · rw [if_pos c]
        exact Or.inr ⟨rfl, Or.inr (Or.inr ⟨e3, f3, c⟩)⟩
      · rw [if_neg c]
        exact Or.inl ⟨a, b, ha, hb, fun q => c (by rw [e1, f1, q]), e1, f1, rfl, e3, f3, c⟩
    · rw [e2, Option.bind_some, if_neg (by decide), f2, Option.bind_some, if_pos rfl]
      exact Or.inr ⟨rfl, Or.inr (Or.inl ⟨e3, f3⟩)⟩
  · rw [e2, Option.bind_some, if_pos rfl]
    exact Or.inr ⟨rfl, Or.inl e3⟩
theorem op_under : OP_under Rel := by
  intro s9 s10 p1 p2 ⟨A, hok, h6, h10, rI, rL, rT, rH, rR, rS, rB⟩
  rcases two_cases h6 h10 hok p1 p2 with ⟨a, b, ha, hb, hab, rfl, rfl, e6, e1, e2, e3⟩ | ⟨e6, e10⟩
  · obtain ⟨g, g1⟩ := isUnder6 h6 hok ha hb
    obtain ⟨k, k1⟩ := isUnder10 h10 hok ha hb
    refine ⟨(if undB A 0 a b then 1 else 0, g, p9_refusals s9), (if undB A 0 a b then 1 else 0, p10_refusals s10, k), ?_, ?_, rfl, Rel_q rI rL rT rH (by dsimp only [keep9q, st_X9_under]) (by dsimp only [keep10, st_X10_under]) hok (S6_reached h6 g) (S10_mk h10 (by dsimp only [c10, st_X10_under])) (by dsimp only [st_X9_under, st_X10_under]; exact rR) (by dsimp only [st_X9_under]; exact rS) (by dsimp only [RelB, st_X9_under]; exact rB)⟩
    · unfold m_X9_under
      rw [e6, Option.bind_some, if_neg (by decide), g1, Option.bind_some]
      cases undB A 0 a b <;> rfl
    · unfold m_X10_under
      rw [e1, Option.bind_some, if_neg (by decide), e2, Option.bind_some, if_neg (by decide), if_neg e3, k1, Option.bind_some]
      cases undB A 0 a b <;> rfl
  · refine ⟨(-1, p6_reached (p9_now s9), cnt (p9_refusals s9) 1), (-1, cnt (p10_refusals s10) 1, p10_beneath s10), ?_, ?_, rfl, A, hok, h6, h10, rI, rL, rT, rH, Req_cnt rR (by decide), rS, rB⟩
    · unfold m_X9_under
      rw [e6, Option.bind_some, if_pos rfl, use9 (k := 1) _ (by decide) (by decide), Option.bind_some]
    · have fin : (m_X10_no (u10_beneath (p10_beneath s10) s10) (-1)).bind (fun x6 => some (x6.1, x6.2, p10_beneath s10)) = some ((-1 : Int32), cnt (p10_refusals s10) 1, p10_beneath s10) := by
        rw [no10 (k := 1) _ (by decide) (by decide), Option.bind_some]
      unfold m_X10_under
      rcases e10 with e | ⟨e, e'⟩ | ⟨e, e', e''⟩
      · rw [e, Option.bind_some, if_pos rfl, Option.bind_some]
        exact fin
      · rw [e, Option.bind_some, if_neg (by decide), e', Option.bind_some, if_pos rfl, Option.bind_some]
        exact fin
      · rw [e, Option.bind_some, if_neg (by decide), e', Option.bind_some, if_neg (by decide), if_pos e'', Option.bind_some]
        exact fin
/-- the rule is there -/
def thr (A : Sh) (a b : Nat) : Prop := ∃ r, r < hU A ∧ hL A r = a ∧ hO A r = b
theorem there6 {s : T6} {A : Sh} (h : S6 s A) (hok : okS A) {a b : Nat} (ha : a < hN A) (hb : b < hN A) : (m_X6_isThere s (nI a) (nI b) = some 1 ∧ thr A a b) ∨ (m_X6_isThere s (nI a) (nI b) = some 0 ∧ ¬ thr A a b) := by
  have n7 := hok.1.1
  have n12 := hok.2.1.1
  obtain ⟨-, -, ⟨h1, h2, h3⟩, -⟩ := id h
  obtain ⟨r, e, q⟩ := lp_invf (f := fun z : Int32 => m_X6_isThere_l2 s (nI a) (nI b) z) (I := fun d z => ∃ t, t ≤ hU A ∧ d = hU A - t ∧ z = nI t ∧ ∀ r, r < t → ¬ (hL A r = a ∧ hO A r = b)) (Q := fun r => (r = .inl () ∧ thr A a b) ∨ (r = .inr () ∧ ¬ thr A a b)) (d := hU A) (s := 0) (by
    rintro d z ⟨t, ht, hd, rfl, no⟩
    rcases Nat.lt_or_ge t (hU A) with q | q
    · obtain ⟨k1, k2, k3⟩ := hok.2.1.2 t q
      have go : m_X6_isThere_l2 s (nI a) (nI b) (nI t) = if nI (hL A t) = nI a then (if nI (hO A t) = nI b then some (.inr (.inl ())) else some (.inl (nI (t + 1)))) else some (.inl (nI (t + 1))) := by
        unfold m_X6_isThere_l2
        rw [h1, if_neg (nI_ge q (by omega)), get_in (by omega) (by decide), Option.bind_some, h2 t q, get_in (by omega) (by decide), Option.bind_some, h3 t q, nI_1]
      rw [go]
      by_cases c : hL A t = a
      · by_cases c2 : hO A t = b
        · rw [if_pos (by rw [c]), if_pos (by rw [c2])]
          exact Or.inr ⟨_, rfl, Or.inl ⟨rfl, t, q, c, c2⟩⟩
        · rw [if_pos (by rw [c]), if_neg (fun e => c2 (nI_inj (by omega) (by omega) e))]
          refine Or.inl ⟨hU A - (t + 1), _, rfl, by omega, t + 1, by omega, rfl, rfl, fun r hr hh => ?_⟩
          rcases Nat.lt_or_ge r t with w | w
          · exact no r w hh
          · rw [show r = t by omega] at hh
            exact c2 hh.2
      · rw [if_neg (fun e => c (nI_inj (by omega) (by omega) e))]
        refine Or.inl ⟨hU A - (t + 1), _, rfl, by omega, t + 1, by omega, rfl, rfl, fun r hr hh => ?_⟩
        rcases Nat.lt_or_ge r t with w | w
        · exact no r w hh
        · rw [show r = t by omega] at hh
          exact c hh.1
    · refine Or.inr ⟨.inr (), ?_, Or.inr ⟨rfl, fun ⟨r, w1, w2, w3⟩ => no r (by omega) ⟨w2, w3⟩⟩⟩
      unfold m_X6_isThere_l2
      rw [h1, if_pos (nI_le q (by omega))]) ⟨0, Nat.zero_le _, rfl, rfl, fun r hr => absurd hr (Nat.not_lt_zero r)⟩ (by omega)
  unfold m_X6_isThere
  rw [e, Option.bind_some]
  rcases q with ⟨rfl, q⟩ | ⟨rfl, q⟩
  · exact Or.inl ⟨rfl, q⟩
  · exact Or.inr ⟨rfl, q⟩
theorem there10 {s : T10} {A : Sh} (h : S10 s A) (hok : okS A) {a b : Nat} (ha : a < hN A) (hb : b < hN A) : (lp (fun z : Int32 => m_X10_rule_l45_2 s (nI a) (nI b) z) fu 0 = some (.inl ()) ∧ thr A a b) ∨ (lp (fun z : Int32 => m_X10_rule_l45_2 s (nI a) (nI b) z) fu 0 = some (.inr ()) ∧ ¬ thr A a b) := by
  have n7 := hok.1.1
  have n12 := hok.2.1.1
  obtain ⟨-, -, ⟨h1, h2, h3⟩, -⟩ := id h
  obtain ⟨r, e, q⟩ := lp_invf (f := fun z : Int32 => m_X10_rule_l45_2 s (nI a) (nI b) z) (I := fun d z => ∃ t, t ≤ hU A ∧ d = hU A - t ∧ z = nI t ∧ ∀ r, r < t → ¬ (hL A r = a ∧ hO A r = b)) (Q := fun r => (r = .inl () ∧ thr A a b) ∨ (r = .inr () ∧ ¬ thr A a b)) (d := hU A) (s := 0) (by
    rintro d z ⟨t, ht, hd, rfl, no⟩
    rcases Nat.lt_or_ge t (hU A) with q | q
    · obtain ⟨k1, k2, k3⟩ := hok.2.1.2 t q
      have ib : inb (nI t) 12 = true := inb_nI (by omega) (by decide)
      have cl : (nI t).toNatClampNeg = t := nI_clamp (by omega)
      have go : m_X10_rule_l45_2 s (nI a) (nI b) (nI t) = if nI (hL A t) = nI a then (if nI (hO A t) = nI b then some (.inr (.inl ())) else some (.inl (nI (t + 1)))) else some (.inl (nI (t + 1))) := by
        unfold m_X10_rule_l45_2
        rw [h1, if_neg (nI_ge q (by omega)), if_pos ib, cl, h2 t q, if_pos ib, h3 t q, nI_1]
      rw [go]
      by_cases c : hL A t = a
      · by_cases c2 : hO A t = b
        · rw [if_pos (by rw [c]), if_pos (by rw [c2])]
          exact Or.inr ⟨_, rfl, Or.inl ⟨rfl, t, q, c, c2⟩⟩
        · rw [if_pos (by rw [c]), if_neg (fun e => c2 (nI_inj (by omega) (by omega) e))]
          refine Or.inl ⟨hU A - (t + 1), _, rfl, by omega, t + 1, by omega, rfl, rfl, fun r hr hh => ?_⟩
          rcases Nat.lt_or_ge r t with w | w
          · exact no r w hh
          · rw [show r = t by omega] at hh
            exact c2 hh.2
      · rw [if_neg (fun e => c (nI_inj (by omega) (by omega) e))]
        refine Or.inl ⟨hU A - (t + 1), _, rfl, by omega, t + 1, by omega, rfl, rfl, fun r hr hh => ?_⟩
        rcases Nat.lt_or_ge r t with w | w
        · exact no r w hh
        · rw [show r = t by omega] at hh
          exact c hh.1
    · refine Or.inr ⟨.inr (), ?_, Or.inr ⟨rfl, fun ⟨r, w1, w2, w3⟩ => no r (by omega) ⟨w2, w3⟩⟩⟩
      unfold m_X10_rule_l45_2
      rw [h1, if_pos (nI_le q (by omega))]) ⟨0, Nat.zero_le _, rfl, rfl, fun r hr => absurd hr (Nat.not_lt_zero r)⟩ (by omega)
  rcases q with ⟨rfl, q⟩ | ⟨rfl, q⟩
  · exact Or.inl ⟨e, q⟩
  · exact Or.inr ⟨e, q⟩
def aRule (A : Sh) (a b : Nat) : Sh := (hN A, hR A, hK A, hF A, hH A, hP A, hU A + 1, fun j => if j = hU A then a else hL A j, fun j => if j = hU A then b else hO A j, hB A, hM A, hT A)
theorem okRule {A : Sh} (hok : okS A) {a b : Nat} (ha : a < hN A) (hb : b < hN A) (hab : a ≠ b) (hu : hU A < 12) : okS (aRule A a b) := by
  obtain ⟨h1, ⟨h3, h4⟩, h5⟩ := hok
  refine ⟨h1, ⟨by show hU A + 1 ≤ 12; omega, fun r hr => ?_⟩, h5⟩
  have hr : r < hU A + 1 := hr
  show (if r = hU A then a else hL A r) < hN A ∧ (if r = hU A then b else hO A r) < hN A ∧ (if r = hU A then a else hL A r) ≠ (if r = hU A then b else hO A r)
  by_cases q : r = hU A
  · simp only [if_pos q]; exact ⟨ha, hb, hab⟩
  · simp only [if_neg q]; exact h4 r (by omega)
