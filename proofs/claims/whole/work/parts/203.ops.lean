/-! MORE PLAIN CALLS -/
/-- a paper's number becomes another -/
def setF (g : Nat → Nat) (p v : Nat) : Nat → Nat := fun j => if j = p then v else g j
theorem setF_at {g : Nat → Nat} {p v : Nat} : setF g p v p = v := by simp [setF]
theorem setF_ne {g : Nat → Nat} {p v j : Nat} (h : j ≠ p) : setF g p v j = g j := by simp [setF, h]
def aKind (A : Sh) (p k f : Nat) : Sh := (hN A, hR A, setF (hK A) p k, setF (hF A) p f, hH A, hP A, hU A, hL A, hO A, hB A, hM A, hT A)
def aRaw (A : Sh) (p v : Nat) : Sh := (hN A, setF (hR A) p v, hK A, hF A, hH A, hP A, hU A, hL A, hO A, hB A, hM A, hT A)
def aHeavy (A : Sh) (p v : Nat) : Sh := (hN A, hR A, hK A, hF A, setF (hH A) p v, hP A, hU A, hL A, hO A, hB A, hM A, hT A)
def aPlace (A : Sh) (p v : Nat) : Sh := (hN A, hR A, hK A, hF A, hH A, setF (hP A) p v, hU A, hL A, hO A, hB A, hM A, hT A)
theorem okKind {A : Sh} (hok : okS A) {p k f : Nat} (hk : k ≤ 5) (hf : f ≤ 9) : okS (aKind A p k f) := by
  obtain ⟨⟨h1, h2⟩, h3⟩ := hok
  refine ⟨⟨h1, fun q hq => ?_⟩, h3⟩
  have := h2 q hq
  show hR A q ≤ 99 ∧ setF (hK A) p k q ≤ 5 ∧ setF (hF A) p f q ≤ 9 ∧ (1 ≤ hH A q ∧ hH A q ≤ 9) ∧ hP A q ≤ 9
  by_cases e : q = p
  · subst e; simp only [setF_at]; omega
  · simp only [setF_ne e]; omega
theorem okRaw {A : Sh} (hok : okS A) {p v : Nat} (hv : v ≤ 99) : okS (aRaw A p v) := by
  obtain ⟨⟨h1, h2⟩, h3⟩ := hok
  refine ⟨⟨h1, fun q hq => ?_⟩, h3⟩
  have := h2 q hq
  show setF (hR A) p v q ≤ 99 ∧ hK A q ≤ 5 ∧ hF A q ≤ 9 ∧ (1 ≤ hH A q ∧ hH A q ≤ 9) ∧ hP A q ≤ 9
  by_cases e : q = p
  · subst e; simp only [setF_at]; omega
  · simp only [setF_ne e]; omega
theorem okHeavy {A : Sh} (hok : okS A) {p v : Nat} (hv : 1 ≤ v ∧ v ≤ 9) : okS (aHeavy A p v) := by
  obtain ⟨⟨h1, h2⟩, h3⟩ := hok
  refine ⟨⟨h1, fun q hq => ?_⟩, h3⟩
  have := h2 q hq
  show hR A q ≤ 99 ∧ hK A q ≤ 5 ∧ hF A q ≤ 9 ∧ (1 ≤ setF (hH A) p v q ∧ setF (hH A) p v q ≤ 9) ∧ hP A q ≤ 9
  by_cases e : q = p
  · subst e; simp only [setF_at]; omega
  · simp only [setF_ne e]; omega
theorem okPlace {A : Sh} (hok : okS A) {p v : Nat} (hv : v ≤ 9) : okS (aPlace A p v) := by
  obtain ⟨⟨h1, h2⟩, h3⟩ := hok
  refine ⟨⟨h1, fun q hq => ?_⟩, h3⟩
  have := h2 q hq
  show hR A q ≤ 99 ∧ hK A q ≤ 5 ∧ hF A q ≤ 9 ∧ (1 ≤ hH A q ∧ hH A q ≤ 9) ∧ setF (hP A) p v q ≤ 9
  by_cases e : q = p
  · subst e; simp only [setF_at]; omega
  · simp only [setF_ne e]; omega
/-- raw, told by what happens -/
theorem swRaw6 {s : T6} {A : Sh} (h : S6 s A) (hok : okS A) {p v : Nat} (hp : p < hN A) (h1 : 0 ≤ v) (h2 : v ≤ 99) : m_X6_setRaw s (nI p) (nI v) = some (nI (hR A p), upd (p6_raws s) p (nI v)) ∧ S6 (u6_raws (upd (p6_raws s) p (nI v)) s) (aRaw A p v) := by
  obtain ⟨k1, ⟨h2', h3, h4, h5, h6⟩, h7, h8, h9⟩ := h
  have n7 := hok.1.1
  refine ⟨?_, k1, ⟨Eqn_upd h2' rfl, h3, h4, h5, h6⟩, h7, h8, h9⟩
  unfold m_X6_setRaw m_X6_swap_0_0_1 m_X6_hasPaper
  rw [if_neg (nI_pos (by omega)), k1, if_neg (nI_ge hp (by omega))]
  simp only [Option.bind_some]
  rw [if_neg (by decide), if_pos (by rw [i_le, nI_toInt (by omega), show (0 : Int32).toInt = 0 from rfl]; omega), if_pos (by rw [i_le, nI_toInt (by omega), show (99 : Int32).toInt = 99 from rfl]; omega), get_in (by omega) (by decide), Option.bind_some, set_in (by omega) (by decide)]
  simp only [Option.bind_some]
  rw [h2' p hp]
theorem op_raw : OP_raw Rel := by
  intro s9 s10 p1 p2 ⟨A, hok, h6, h10, rI, rL, rT, rH, rR, rS, rB⟩
  have n7 := hok.1.1
  rcases paper_cases h6 h10 hok p1 with ⟨p, hp, rfl, e6, e10⟩ | ⟨e6, e10⟩
  · by_cases c1 : (0 : Int32) ≤ p2
    · by_cases c2 : p2 ≤ (99 : Int32)
      · have c1' := c1
        have c2' := c2
        rw [i_le, show (0 : Int32).toInt = 0 from rfl] at c1'
        rw [i_le, show (99 : Int32).toInt = 99 from rfl] at c2'
        obtain ⟨v, hv, rfl⟩ := num_of (x := p2) (m := 99) (by omega) (by omega)
        rw [nI_toInt (by omega)] at c1'
        obtain ⟨e1, e2⟩ := swRaw6 h6 hok hp (v := v) (by omega) (by omega)
        have hb := (hok.1.2 p hp)
        refine ⟨(nI (hR A p), upd (p6_raws (p9_now s9)) p (nI v), p9_refusals s9), (nI (hR A p), upd (p10_raw s10) p (nI v), p10_refusals s10), ?_, ?_, rfl, Rel_mk rI rL rT rH rS rB (by dsimp only [keep9, st_X9_raw, u9_refusals, u9_now, p9_kept, p9_isKept, p9_letters, p9_told, p9_toldCount, p9_shelves, p9_said, p9_byRules]) (by dsimp only [keep10, st_X10_raw, u10_refusals, u10_raw, p10_hasImage, p10_imaged, p10_letters, p10_letter, p10_tolds, p10_told, p10_places, p10_cell]) (okRaw hok (by omega)) e2 ?_ (by dsimp only [st_X9_raw, st_X10_raw, u9_refusals, p9_refusals, u10_refusals, p10_refusals]; exact rR)⟩
        · unfold m_X9_raw
          rw [e1, Option.bind_some, counted_pos _ (by omega), Option.bind_some]
        · obtain ⟨k1, ⟨h2, h3, h4, h5, h6⟩, h7, h8, h9⟩ := h10
          unfold m_X10_raw m_X10_becomes_0_0_1
          rw [e10]
          simp only [Option.bind_some]
          rw [if_neg (by decide), if_pos c1, if_pos c2, if_pos (inb_nI (by omega) (by decide)), if_pos (inb_nI (by omega) (by decide)), nI_clamp (by omega), h2 p hp]
          rfl
        · obtain ⟨k1, ⟨h2, h3, h4, h5, h6⟩, h7, h8, h9⟩ := h10
          exact ⟨k1, ⟨Eqn_upd h2 rfl, h3, h4, h5, h6⟩, h7, h8, h9⟩
      · refine ⟨(-6, p6_raws (p9_now s9), cnt (p9_refusals s9) 6), (-6, p10_raw s10, cnt (p10_refusals s10) 6), ?_, ?_, rfl, A, hok, h6, h10, rI, rL, rT, rH, Req_cnt rR (by decide), rS, rB⟩
        · unfold m_X9_raw m_X6_setRaw m_X6_swap_0_0_1
          rw [e6]
          simp only [Option.bind_some]
          rw [if_neg (by decide), if_pos c1, if_neg c2]
          simp only [Option.bind_some]
          rw [counted_neg (k := 6) (c := -6) _ (by decide) (by decide) (by decide) (by decide), Option.bind_some]
        · unfold m_X10_raw m_X10_becomes_0_0_1
          rw [e10]
          simp only [Option.bind_some]
          rw [if_neg (by decide), if_pos c1, if_neg c2, no10 (k := 6) _ (by decide) (by decide)]
          rfl
    · refine ⟨(-4, p6_raws (p9_now s9), cnt (p9_refusals s9) 4), (-4, p10_raw s10, cnt (p10_refusals s10) 4), ?_, ?_, rfl, A, hok, h6, h10, rI, rL, rT, rH, Req_cnt rR (by decide), rS, rB⟩
      · unfold m_X9_raw m_X6_setRaw m_X6_swap_0_0_1
        rw [e6]
        simp only [Option.bind_some]
        rw [if_neg (by decide), if_neg c1]
        simp only [Option.bind_some]
        rw [counted_neg (k := 4) (c := -4) _ (by decide) (by decide) (by decide) (by decide), Option.bind_some]
      · unfold m_X10_raw m_X10_becomes_0_0_1
        rw [e10]
        simp only [Option.bind_some]
        rw [if_neg (by decide), if_neg c1, no10 (k := 4) _ (by decide) (by decide)]
        rfl
  · refine ⟨(-1, p6_raws (p9_now s9), cnt (p9_refusals s9) 1), (-1, p10_raw s10, cnt (p10_refusals s10) 1), ?_, ?_, rfl, A, hok, h6, h10, rI, rL, rT, rH, Req_cnt rR (by decide), rS, rB⟩
    · unfold m_X9_raw m_X6_setRaw m_X6_swap_0_0_1
      rw [e6]
      simp only [Option.bind_some]
      rw [if_pos trivial]
      simp only [Option.bind_some]
      rw [counted_neg (k := 1) (c := -1) _ (by decide) (by decide) (by decide) (by decide), Option.bind_some]
    · unfold m_X10_raw m_X10_becomes_0_0_1
      rw [e10]
      simp only [Option.bind_some]
      rw [if_pos trivial, no10 (k := 1) _ (by decide) (by decide)]
      rfl
/-- heavy, told by what happens -/
theorem swHeavy6 {s : T6} {A : Sh} (h : S6 s A) (hok : okS A) {p v : Nat} (hp : p < hN A) (h1 : 1 ≤ v) (h2 : v ≤ 9) : m_X6_setHeavy s (nI p) (nI v) = some (nI (hH A p), upd (p6_heavies s) p (nI v)) ∧ S6 (u6_heavies (upd (p6_heavies s) p (nI v)) s) (aHeavy A p v) := by
  obtain ⟨k1, ⟨h2', h3, h4, h5, h6⟩, h7, h8, h9⟩ := h
  have n7 := hok.1.1
  refine ⟨?_, k1, ⟨h2', h3, h4, Eqn_upd h5 rfl, h6⟩, h7, h8, h9⟩
  unfold m_X6_setHeavy m_X6_swap_0_0_7 m_X6_hasPaper
  rw [if_neg (nI_pos (by omega)), k1, if_neg (nI_ge hp (by omega))]
  simp only [Option.bind_some]
  rw [if_neg (by decide), if_pos (by rw [i_le, nI_toInt (by omega), show (1 : Int32).toInt = 1 from rfl]; omega), if_pos (by rw [i_le, nI_toInt (by omega), show (9 : Int32).toInt = 9 from rfl]; omega), get_in (by omega) (by decide), Option.bind_some, set_in (by omega) (by decide)]
  simp only [Option.bind_some]
  rw [h5 p hp]
theorem op_heavy : OP_heavy Rel := by
  intro s9 s10 p1 p2 ⟨A, hok, h6, h10, rI, rL, rT, rH, rR, rS, rB⟩
  have n7 := hok.1.1
  rcases paper_cases h6 h10 hok p1 with ⟨p, hp, rfl, e6, e10⟩ | ⟨e6, e10⟩
  · by_cases c1 : (1 : Int32) ≤ p2
    · by_cases c2 : p2 ≤ (9 : Int32)
      · have c1' := c1
        have c2' := c2
        rw [i_le, show (1 : Int32).toInt = 1 from rfl] at c1'
        rw [i_le, show (9 : Int32).toInt = 9 from rfl] at c2'
        obtain ⟨v, hv, rfl⟩ := num_of (x := p2) (m := 9) (by omega) (by omega)
        rw [nI_toInt (by omega)] at c1'
        obtain ⟨e1, e2⟩ := swHeavy6 h6 hok hp (v := v) (by omega) (by omega)
        have hb := (hok.1.2 p hp)
        refine ⟨(nI (hH A p), upd (p6_heavies (p9_now s9)) p (nI v), p9_refusals s9), (nI (hH A p), upd (p10_heavy s10) p (nI v), p10_refusals s10), ?_, ?_, rfl, Rel_mk rI rL rT rH rS rB (by dsimp only [keep9, st_X9_heavy, u9_refusals, u9_now, p9_kept, p9_isKept, p9_letters, p9_told, p9_toldCount, p9_shelves, p9_said, p9_byRules]) (by dsimp only [keep10, st_X10_heavy, u10_refusals, u10_heavy, p10_hasImage, p10_imaged, p10_letters, p10_letter, p10_tolds, p10_told, p10_places, p10_cell]) (okHeavy hok (⟨by omega, by omega⟩)) e2 ?_ (by dsimp only [st_X9_heavy, st_X10_heavy, u9_refusals, p9_refusals, u10_refusals, p10_refusals]; exact rR)⟩
        · unfold m_X9_heavy
          rw [e1, Option.bind_some, counted_pos _ (by omega), Option.bind_some]
        · obtain ⟨k1, ⟨h2, h3, h4, h5, h6⟩, h7, h8, h9⟩ := h10
          unfold m_X10_heavy m_X10_becomes_0_0_4
          rw [e10]
          simp only [Option.bind_some]
          rw [if_neg (by decide), if_pos c1, if_pos c2, if_pos (inb_nI (by omega) (by decide)), if_pos (inb_nI (by omega) (by decide)), nI_clamp (by omega), h5 p hp]
          rfl
        · obtain ⟨k1, ⟨h2, h3, h4, h5, h6⟩, h7, h8, h9⟩ := h10
          exact ⟨k1, ⟨h2, h3, h4, Eqn_upd h5 rfl, h6⟩, h7, h8, h9⟩
      · refine ⟨(-6, p6_heavies (p9_now s9), cnt (p9_refusals s9) 6), (-6, p10_heavy s10, cnt (p10_refusals s10) 6), ?_, ?_, rfl, A, hok, h6, h10, rI, rL, rT, rH, Req_cnt rR (by decide), rS, rB⟩
        · unfold m_X9_heavy m_X6_setHeavy m_X6_swap_0_0_7
          rw [e6]
          simp only [Option.bind_some]
          rw [if_neg (by decide), if_pos c1, if_neg c2]
          simp only [Option.bind_some]
          rw [counted_neg (k := 6) (c := -6) _ (by decide) (by decide) (by decide) (by decide), Option.bind_some]
        · unfold m_X10_heavy m_X10_becomes_0_0_4
          rw [e10]
          simp only [Option.bind_some]
          rw [if_neg (by decide), if_pos c1, if_neg c2, no10 (k := 6) _ (by decide) (by decide)]
          rfl
    · refine ⟨(-4, p6_heavies (p9_now s9), cnt (p9_refusals s9) 4), (-4, p10_heavy s10, cnt (p10_refusals s10) 4), ?_, ?_, rfl, A, hok, h6, h10, rI, rL, rT, rH, Req_cnt rR (by decide), rS, rB⟩
      · unfold m_X9_heavy m_X6_setHeavy m_X6_swap_0_0_7
        rw [e6]
        simp only [Option.bind_some]
        rw [if_neg (by decide), if_neg c1]
        simp only [Option.bind_some]
        rw [counted_neg (k := 4) (c := -4) _ (by decide) (by decide) (by decide) (by decide), Option.bind_some]
      · unfold m_X10_heavy m_X10_becomes_0_0_4
        rw [e10]
        simp only [Option.bind_some]
        rw [if_neg (by decide), if_neg c1, no10 (k := 4) _ (by decide) (by decide)]
        rfl
  · refine ⟨(-1, p6_heavies (p9_now s9), cnt (p9_refusals s9) 1), (-1, p10_heavy s10, cnt (p10_refusals s10) 1), ?_, ?_, rfl, A, hok, h6, h10, rI, rL, rT, rH, Req_cnt rR (by decide), rS, rB⟩
    · unfold m_X9_heavy m_X6_setHeavy m_X6_swap_0_0_7
      rw [e6]
      simp only [Option.bind_some]
      rw [if_pos trivial]
      simp only [Option.bind_some]
      rw [counted_neg (k := 1) (c := -1) _ (by decide) (by decide) (by decide) (by decide), Option.bind_some]
    · unfold m_X10_heavy m_X10_becomes_0_0_4
      rw [e10]
      simp only [Option.bind_some]
      rw [if_pos trivial, no10 (k := 1) _ (by decide) (by decide)]
      rfl
/-- place, told by what happens -/
theorem swPlace6 {s : T6} {A : Sh} (h : S6 s A) (hok : okS A) {p v : Nat} (hp : p < hN A) (h1 : 0 ≤ v) (h2 : v ≤ 9) : m_X6_setPlace s (nI p) (nI v) = some (nI (hP A p), upd (p6_places s) p (nI v)) ∧ S6 (u6_places (upd (p6_places s) p (nI v)) s) (aPlace A p v) := by
  obtain ⟨k1, ⟨h2', h3, h4, h5, h6⟩, h7, h8, h9⟩ := h
  have n7 := hok.1.1
  refine ⟨?_, k1, ⟨h2', h3, h4, h5, Eqn_upd h6 rfl⟩, h7, h8, h9⟩
  unfold m_X6_setPlace m_X6_swap_0_0_9 m_X6_hasPaper
  rw [if_neg (nI_pos (by omega)), k1, if_neg (nI_ge hp (by omega))]
  simp only [Option.bind_some]
  rw [if_neg (by decide), if_pos (by rw [i_le, nI_toInt (by omega), show (0 : Int32).toInt = 0 from rfl]; omega), if_pos (by rw [i_le, nI_toInt (by omega), show (9 : Int32).toInt = 9 from rfl]; omega), get_in (by omega) (by decide), Option.bind_some, set_in (by omega) (by decide)]
  simp only [Option.bind_some]
  rw [h6 p hp]
theorem op_place : OP_place Rel := by
  intro s9 s10 p1 p2 ⟨A, hok, h6, h10, rI, rL, rT, rH, rR, rS, rB⟩
  have n7 := hok.1.1
  rcases paper_cases h6 h10 hok p1 with ⟨p, hp, rfl, e6, e10⟩ | ⟨e6, e10⟩
  · by_cases c1 : (0 : Int32) ≤ p2
    · by_cases c2 : p2 ≤ (9 : Int32)
      · have c1' := c1
        have c2' := c2
        rw [i_le, show (0 : Int32).toInt = 0 from rfl] at c1'
        rw [i_le, show (9 : Int32).toInt = 9 from rfl] at c2'
        obtain ⟨v, hv, rfl⟩ := num_of (x := p2) (m := 9) (by omega) (by omega)
        rw [nI_toInt (by omega)] at c1'
        obtain ⟨e1, e2⟩ := swPlace6 h6 hok hp (v := v) (by omega) (by omega)
        have hb := (hok.1.2 p hp)
        refine ⟨(nI (hP A p), upd (p6_places (p9_now s9)) p (nI v), p9_refusals s9), (nI (hP A p), upd (p10_place s10) p (nI v), p10_refusals s10), ?_, ?_, rfl, Rel_mk rI rL rT rH rS rB (by dsimp only [keep9, st_X9_place, u9_refusals, u9_now, p9_kept, p9_isKept, p9_letters, p9_told, p9_toldCount, p9_shelves, p9_said, p9_byRules]) (by dsimp only [keep10, st_X10_place, u10_refusals, u10_place, p10_hasImage, p10_imaged, p10_letters, p10_letter, p10_tolds, p10_told, p10_places, p10_cell]) (okPlace hok (by omega)) e2 ?_ (by dsimp only [st_X9_place, st_X10_place, u9_refusals, p9_refusals, u10_refusals, p10_refusals]; exact rR)⟩
        · unfold m_X9_place
          rw [e1, Option.bind_some, counted_pos _ (by omega), Option.bind_some]
        · obtain ⟨k1, ⟨h2, h3, h4, h5, h6⟩, h7, h8, h9⟩ := h10
          unfold m_X10_place m_X10_becomes_0_0_5
          rw [e10]
          simp only [Option.bind_some]
          rw [if_neg (by decide), if_pos c1, if_pos c2, if_pos (inb_nI (by omega) (by decide)), if_pos (inb_nI (by omega) (by decide)), nI_clamp (by omega), h6 p hp]
          rfl
        · obtain ⟨k1, ⟨h2, h3, h4, h5, h6⟩, h7, h8, h9⟩ := h10
          exact ⟨k1, ⟨h2, h3, h4, h5, Eqn_upd h6 rfl⟩, h7, h8, h9⟩
      · refine ⟨(-6, p6_places (p9_now s9), cnt (p9_refusals s9) 6), (-6, p10_place s10, cnt (p10_refusals s10) 6), ?_, ?_, rfl, A, hok, h6, h10, rI, rL, rT, rH, Req_cnt rR (by decide), rS, rB⟩
        · unfold m_X9_place m_X6_setPlace m_X6_swap_0_0_9
          rw [e6]
          simp only [Option.bind_some]
          rw [if_neg (by decide), if_pos c1, if_neg c2]
          simp only [Option.bind_some]
          rw [counted_neg (k := 6) (c := -6) _ (by decide) (by decide) (by decide) (by decide), Option.bind_some]
        · unfold m_X10_place m_X10_becomes_0_0_5
          rw [e10]
          simp only [Option.bind_some]
          rw [if_neg (by decide), if_pos c1, if_neg c2, no10 (k := 6) _ (by decide) (by decide)]
          rfl
    · refine ⟨(-4, p6_places (p9_now s9), cnt (p9_refusals s9) 4), (-4, p10_place s10, cnt (p10_refusals s10) 4), ?_, ?_, rfl, A, hok, h6, h10, rI, rL, rT, rH, Req_cnt rR (by decide), rS, rB⟩
      · unfold m_X9_place m_X6_setPlace m_X6_swap_0_0_9
        rw [e6]
        simp only [Option.bind_some]
        rw [if_neg (by decide), if_neg c1]
        simp only [Option.bind_some]
        rw [counted_neg (k := 4) (c := -4) _ (by decide) (by decide) (by decide) (by decide), Option.bind_some]
      · unfold m_X10_place m_X10_becomes_0_0_5
        rw [e10]
        simp only [Option.bind_some]
        rw [if_neg (by decide), if_neg c1, no10 (k := 4) _ (by decide) (by decide)]
        rfl
  · refine ⟨(-1, p6_places (p9_now s9), cnt (p9_refusals s9) 1), (-1, p10_place s10, cnt (p10_refusals s10) 1), ?_, ?_, rfl, A, hok, h6, h10, rI, rL, rT, rH, Req_cnt rR (by decide), rS, rB⟩
    · unfold m_X9_place m_X6_setPlace m_X6_swap_0_0_9
      rw [e6]
      simp only [Option.bind_some]
      rw [if_pos trivial]
      simp only [Option.bind_some]
      rw [counted_neg (k := 1) (c := -1) _ (by decide) (by decide) (by decide) (by decide), Option.bind_some]
    · unfold m_X10_place m_X10_becomes_0_0_5
      rw [e10]
      simp only [Option.bind_some]
      rw [if_pos trivial, no10 (k := 1) _ (by decide) (by decide)]
      rfl
