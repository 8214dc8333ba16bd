/-! SHEETS: what the class's sheet and the reference hold, as plain numbers; the relation of the two -/
abbrev Sh : Type := Nat × (Nat → Nat) × (Nat → Nat) × (Nat → Nat) × (Nat → Nat) × (Nat → Nat) × Nat × (Nat → Nat) × (Nat → Nat) × Nat × (Nat → Nat) × Nat
abbrev hN (A : Sh) : Nat := A.1
abbrev hR (A : Sh) : Nat → Nat := A.2.1
abbrev hK (A : Sh) : Nat → Nat := A.2.2.1
abbrev hF (A : Sh) : Nat → Nat := A.2.2.2.1
abbrev hH (A : Sh) : Nat → Nat := A.2.2.2.2.1
abbrev hP (A : Sh) : Nat → Nat := A.2.2.2.2.2.1
abbrev hU (A : Sh) : Nat := A.2.2.2.2.2.2.1
abbrev hL (A : Sh) : Nat → Nat := A.2.2.2.2.2.2.2.1
abbrev hO (A : Sh) : Nat → Nat := A.2.2.2.2.2.2.2.2.1
abbrev hB (A : Sh) : Nat := A.2.2.2.2.2.2.2.2.2.1
abbrev hM (A : Sh) : Nat → Nat := A.2.2.2.2.2.2.2.2.2.2.1
abbrev hT (A : Sh) : Nat := A.2.2.2.2.2.2.2.2.2.2.2
def Eqn (f : Nat → Int32) (g : Nat → Nat) (n : Nat) : Prop := ∀ i, i < n → f i = nI (g i)
def S6 (s : T6) (A : Sh) : Prop := p6_papers s = nI (hN A) ∧ (Eqn (p6_raws s) (hR A) (hN A) ∧ Eqn (p6_kinds s) (hK A) (hN A) ∧ Eqn (p6_figures s) (hF A) (hN A) ∧ Eqn (p6_heavies s) (hH A) (hN A) ∧ Eqn (p6_places s) (hP A) (hN A)) ∧ (p6_rules s = nI (hU A) ∧ Eqn (p6_lowers s) (hL A) (hU A) ∧ Eqn (p6_uppers s) (hO A) (hU A)) ∧ (p6_boundCount s = nI (hB A) ∧ Eqn (p6_bounds s) (hM A) (hB A)) ∧ p6_tieWay s = nI (hT A)
def S10 (s : T10) (A : Sh) : Prop := p10_papers s = nI (hN A) ∧ (Eqn (p10_raw s) (hR A) (hN A) ∧ Eqn (p10_kind s) (hK A) (hN A) ∧ Eqn (p10_figure s) (hF A) (hN A) ∧ Eqn (p10_heavy s) (hH A) (hN A) ∧ Eqn (p10_place s) (hP A) (hN A)) ∧ (p10_rules s = nI (hU A) ∧ Eqn (p10_lower s) (hL A) (hU A) ∧ Eqn (p10_upper s) (hO A) (hU A)) ∧ (p10_limits s = nI (hB A) ∧ Eqn (p10_limit s) (hM A) (hB A)) ∧ p10_ties s = nI (hT A)
/-- the reference's kept copy -/
def SI10 (f : Nat → Int32) (A : Sh) : Prop := f 64 = nI (hN A) ∧ (Eqn f (hR A) (hN A) ∧ Eqn (fun i => f (7 + i)) (hK A) (hN A) ∧ Eqn (fun i => f (14 + i)) (hF A) (hN A) ∧ Eqn (fun i => f (21 + i)) (hH A) (hN A) ∧ Eqn (fun i => f (28 + i)) (hP A) (hN A)) ∧ (f 65 = nI (hU A) ∧ Eqn (fun i => f (35 + i)) (hL A) (hU A) ∧ Eqn (fun i => f (47 + i)) (hO A) (hU A)) ∧ (f 66 = nI (hB A) ∧ Eqn (fun i => f (59 + i)) (hM A) (hB A)) ∧ f 67 = nI (hT A)
def okP (A : Sh) : Prop := hN A ≤ 7 ∧ ∀ p, p < hN A → hR A p ≤ 99 ∧ hK A p ≤ 5 ∧ hF A p ≤ 9 ∧ (1 ≤ hH A p ∧ hH A p ≤ 9) ∧ hP A p ≤ 9
def okU (A : Sh) : Prop := hU A ≤ 12 ∧ ∀ r, r < hU A → hL A r < hN A ∧ hO A r < hN A ∧ hL A r ≠ hO A r
def okB (A : Sh) : Prop := hB A ≤ 5 ∧ ∀ k, k < hB A → 1 ≤ hM A k ∧ hM A k ≤ 99
def okS (A : Sh) : Prop := okP A ∧ okU A ∧ okB A ∧ hT A ≤ 2
/-- texts: the room of the builder is at least what she holds -/
def sbInv (b : TSB) : Prop := ∃ k, pSB_n b = nI k ∧ k ≤ 40 ∧ k ≤ pSB_m b ∧ 16 ≤ pSB_m b ∧ pSB_m b ≤ 200 ∧ fitAll (pSB_m b) (pSB_f b) = true
def Req (f g : Nat → Int32) : Prop := ∀ i, i < 7 → f i = g i
def RelI (s9 : T9) (s10 : T10) : Prop := (p9_isKept s9 = 0 ∧ p10_hasImage s10 = 0) ∨ (p9_isKept s9 = 1 ∧ p10_hasImage s10 = 1 ∧ ∃ B, okS B ∧ S6 (p9_kept s9) B ∧ SI10 (p10_imaged s10) B)
def RelL (s9 : T9) (s10 : T10) : Prop := ∃ (n : Nat) (c : Nat → Nat), n ≤ 120 ∧ p3_size (p9_letters s9) = nI n ∧ p10_letters s10 = nI n ∧ (∀ i, i < n → c i < 256) ∧ Eqn (p3_signs (p9_letters s9)) c n ∧ Eqn (p10_letter s10) c n
def RelT (s9 : T9) (s10 : T10) : Prop := ∃ (n : Nat) (c : Nat → Nat), n ≤ 10 ∧ p9_toldCount s9 = nI n ∧ p10_tolds s10 = nI n ∧ (∀ i, i < n → c i < 1000) ∧ Eqn (p9_told s9) c n ∧ Eqn (p10_told s10) c n
def RelH (s9 : T9) (s10 : T10) : Prop := ∀ j, j < 4 → (p7_made (p9_shelves s9) j = 0 ∧ p10_places s10 j = -1) ∨ (p7_made (p9_shelves s9) j = 1 ∧ ∃ n, n ≤ 20 ∧ p7_sizes (p9_shelves s9) j = nI n ∧ p10_places s10 j = nI n ∧ ∀ i, i < n → p7_cells (p9_shelves s9) (20 * j + i) = p10_cell s10 (20 * j + i))
def RelB (s9 : T9) : Prop := p0_sums (p9_byRules s9) 0 = 0 ∧ p0_weighs (p9_byRules s9) 0 = 0 ∧ p0_downs (p9_byRules s9) 0 = 0
/-- the relation that every call keeps -/
def Rel (s9 : T9) (s10 : T10) : Prop := ∃ A, okS A ∧ S6 (p9_now s9) A ∧ S10 s10 A ∧ RelI s9 s10 ∧ RelL s9 s10 ∧ RelT s9 s10 ∧ RelH s9 s10 ∧ Req (p9_refusals s9) (p10_refusals s10) ∧ sbInv (p9_said s9) ∧ RelB s9
theorem rel_init (q : Nat) : Rel (s9_init q) s10_init := by
  refine ⟨(0, fun _ => 0, fun _ => 0, fun _ => 0, fun _ => 0, fun _ => 0, 0, fun _ => 0, fun _ => 0, 0, fun _ => 0, 0), ⟨⟨by decide, fun p h => absurd h (Nat.not_lt_zero p)⟩, ⟨by decide, fun p h => absurd h (Nat.not_lt_zero p)⟩, ⟨by decide, fun p h => absurd h (Nat.not_lt_zero p)⟩, by decide⟩, ?_, ?_, Or.inl ⟨rfl, rfl⟩, ⟨0, fun _ => 0, by decide, rfl, rfl, fun i h => absurd h (Nat.not_lt_zero i), fun i h => absurd h (Nat.not_lt_zero i), fun i h => absurd h (Nat.not_lt_zero i)⟩, ⟨0, fun _ => 0, by decide, rfl, rfl, fun i h => absurd h (Nat.not_lt_zero i), fun i h => absurd h (Nat.not_lt_zero i), fun i h => absurd h (Nat.not_lt_zero i)⟩, ?_, fun i _ => rfl, ⟨0, rfl, by decide, Nat.zero_le _, Nat.le_refl 16, (show 16 ≤ 200 by decide), (show fitAll 16 (fun _ => 0) = true by decide +kernel)⟩, ⟨rfl, rfl, rfl⟩⟩
  · refine ⟨rfl, ⟨?_, ?_, ?_, ?_, ?_⟩, ⟨rfl, ?_, ?_⟩, ⟨rfl, ?_⟩, rfl⟩ <;> exact fun i h => absurd h (Nat.not_lt_zero i)
  · refine ⟨rfl, ⟨?_, ?_, ?_, ?_, ?_⟩, ⟨rfl, ?_, ?_⟩, ⟨rfl, ?_⟩, rfl⟩ <;> exact fun i h => absurd h (Nat.not_lt_zero i)
  · intro j hj
    refine Or.inl ⟨rfl, ?_⟩
    have : ∀ j, j < 4 → p10_places s10_init j = -1 := by decide +kernel
    exact this j hj
/-- what most calls leave alone -/
def keep9 (s : T9) : T6 × Int32 × T3 × (Nat → Int32) × Int32 × T7 × TSB × T0 := (p9_kept s, p9_isKept s, p9_letters s, p9_told s, p9_toldCount s, p9_shelves s, p9_said s, p9_byRules s)
def keep10 (s : T10) : Int32 × (Nat → Int32) × Int32 × (Nat → Int32) × Int32 × (Nat → Int32) × (Nat → Int32) × (Nat → Int64) := (p10_hasImage s, p10_imaged s, p10_letters s, p10_letter s, p10_tolds s, p10_told s, p10_places s, p10_cell s)
theorem Rel_mk {s9 s9' : T9} {s10 s10' : T10} (hI : RelI s9 s10) (hL : RelL s9 s10) (hT : RelT s9 s10) (hH : RelH s9 s10) (hS : sbInv (p9_said s9)) (hB : RelB s9) (k9 : keep9 s9' = keep9 s9) (k10 : keep10 s10' = keep10 s10) {A : Sh} (hok : okS A) (h6 : S6 (p9_now s9') A) (h10 : S10 s10' A) (hR : Req (p9_refusals s9') (p10_refusals s10')) : Rel s9' s10' := by
  simp only [keep9, keep10, Prod.mk.injEq] at k9 k10
  obtain ⟨a1, a2, a3, a4, a5, a6, a7, a8⟩ := k9
  obtain ⟨b1, b2, b3, b4, b5, b6, b7, b8⟩ := k10
  refine ⟨A, hok, h6, h10, ?_, ?_, ?_, ?_, hR, ?_, ?_⟩
  · unfold RelI
    rw [a1, a2, b1, b2]
    exact hI
  · unfold RelL
    rw [a3, b3, b4]
    exact hL
  · unfold RelT
    rw [a4, a5, b5, b6]
    exact hT
  · unfold RelH
    rw [a6, b7, b8]
    exact hH
  · rw [a7]
    exact hS
  · unfold RelB
    rw [a8]
    exact hB
-- rows
theorem get_in {n i : Nat} {f : Nat → Int32} (h : i < n) (hn : n < 2 ^ 31) : m_X2_get n f (nI i) = some (f i) := by
  unfold m_X2_get
  rw [if_neg (nI_pos (by omega)), if_neg (nI_ge h hn), if_pos (inb_nI h hn), nI_clamp (by omega)]
theorem get_out {n : Nat} {f : Nat → Int32} {x : Int32} (hn : n < 2 ^ 31) (h : x.toInt < 0 ∨ (n : Int) ≤ x.toInt) : m_X2_get n f x = some 0 := by
  unfold m_X2_get
  by_cases c : x < 0
  · rw [if_pos c]
  · rw [if_neg c, if_pos]
    rw [i_le, nI_toInt hn]
    rw [i_lt] at c
    have : (0 : Int32).toInt = 0 := rfl
    omega
theorem set_in {n i : Nat} {f : Nat → Int32} {v : Int32} (h : i < n) (hn : n < 2 ^ 31) : m_X2_set n f (nI i) v = some (upd f i v) := by
  unfold m_X2_set
  rw [if_neg (nI_pos (by omega)), if_neg (nI_ge h hn), if_pos (inb_nI h hn), nI_clamp (by omega)]
theorem set_out {n : Nat} {f : Nat → Int32} {x v : Int32} (hn : n < 2 ^ 31) (h : x.toInt < 0 ∨ (n : Int) ≤ x.toInt) : m_X2_set n f x v = some f := by
  unfold m_X2_set
  by_cases c : x < 0
  · rw [if_pos c]
  · rw [if_neg c, if_pos]
    rw [i_le, nI_toInt hn]
    rw [i_lt] at c
    have : (0 : Int32).toInt = 0 := rfl
    omega
theorem add_in {n i : Nat} {f : Nat → Int32} {v : Int32} (h : i < n) (hn : n < 2 ^ 31) : m_X2_add n f (nI i) v = some (upd f i (f i + v)) := by
  unfold m_X2_add
  rw [get_in h hn, Option.bind_some, set_in h hn, Option.bind_some]
theorem copy_in {n k : Nat} {f h : Nat → Int32} (hn : n < 300) (hk : n ≤ k) (hk2 : k < 300) : ∃ r, m_X2_copyFrom n f k h = some r ∧ ∀ i, i < n → r i = h i := by
  have key : lp (fun z : Int32 × (Nat → Int32) => m_X2_copyFrom_l2 n k h z.1 z.2) fu ((0 : Int32), f) = some (fun j => if j < n then h j else f j) := by
    refine lp_for (fun t => (nI t, fun j => if j < t then h j else f j)) n (fun t ht => ?_) ?_ hn ?_
    · simp only [m_X2_copyFrom_l2]
      rw [if_neg (nI_ge ht (by omega)), get_in (by omega) (by omega), Option.bind_some, if_pos (inb_nI ht (by omega)), nI_1, nI_clamp (by omega)]
      congr 4
      funext j
      by_cases e : j = t
      · subst e; rw [upd_at, if_pos (by omega)]
      · rw [upd_ne e]
        by_cases e2 : j < t
        · rw [if_pos e2, if_pos (by omega)]
        · rw [if_neg e2, if_neg (by omega)]
    · simp only [m_X2_copyFrom_l2]
      rw [if_pos (nI_le (Nat.le_refl _) (by omega))]
    · congr 1
  refine ⟨_, by unfold m_X2_copyFrom; rw [key, Option.bind_some], fun i hi => if_pos hi⟩
theorem copy6 {s t : T6} {A : Sh} (h : S6 t A) (hok : okS A) : ∃ u, m_X6_copyFrom s t = some u ∧ S6 (u6_tieWay u.2.2.2.2.2.2.2.2.2.2.2 (u6_boundCount u.2.2.2.2.2.2.2.2.2.2.1 (u6_bounds u.2.2.2.2.2.2.2.2.2.1 (u6_rules u.2.2.2.2.2.2.2.2.1 (u6_uppers u.2.2.2.2.2.2.2.1 (u6_lowers u.2.2.2.2.2.2.1 (u6_papers u.2.2.2.2.2.1 (u6_places u.2.2.2.2.1 (u6_heavies u.2.2.2.1 (u6_figures u.2.2.1 (u6_kinds u.2.1 (u6_raws u.1 s)))))))))))) A := by
  obtain ⟨h1, ⟨h2, h3, h4, h5, h6⟩, ⟨h7, h8, h9⟩, ⟨h10, h11⟩, h12⟩ := h
  have n7 := hok.1.1
  have n12 := hok.2.1.1
  have n5 := hok.2.2.1.1
  obtain ⟨r1, e1, q1⟩ := copy_in (n := 7) (k := 7) (f := p6_raws s) (h := p6_raws t) (by decide) (by decide) (by decide)
  obtain ⟨r2, e2, q2⟩ := copy_in (n := 7) (k := 7) (f := p6_kinds s) (h := p6_kinds t) (by decide) (by decide) (by decide)
  obtain ⟨r3, e3, q3⟩ := copy_in (n := 7) (k := 7) (f := p6_figures s) (h := p6_figures t) (by decide) (by decide) (by decide)
  obtain ⟨r4, e4, q4⟩ := copy_in (n := 7) (k := 7) (f := p6_heavies s) (h := p6_heavies t) (by decide) (by decide) (by decide)
  obtain ⟨r5, e5, q5⟩ := copy_in (n := 7) (k := 7) (f := p6_places s) (h := p6_places t) (by decide) (by decide) (by decide)
  obtain ⟨r6, e6, q6⟩ := copy_in (n := 12) (k := 12) (f := p6_lowers s) (h := p6_lowers t) (by decide) (by decide) (by decide)
  obtain ⟨r7, e7, q7⟩ := copy_in (n := 12) (k := 12) (f := p6_uppers s) (h := p6_uppers t) (by decide) (by decide) (by decide)
  obtain ⟨r8, e8, q8⟩ := copy_in (n := 5) (k := 5) (f := p6_bounds s) (h := p6_bounds t) (by decide) (by decide) (by decide)
  refine ⟨(r1, r2, r3, r4, r5, p6_papers t, r6, r7, p6_rules t, r8, p6_boundCount t, p6_tieWay t), ?_, h1, ⟨?_, ?_, ?_, ?_, ?_⟩, ⟨h7, ?_, ?_⟩, ⟨h10, ?_⟩, h12⟩
  · unfold m_X6_copyFrom
    rw [e1, Option.bind_some, e2, Option.bind_some, e3, Option.bind_some, e4, Option.bind_some, e5, Option.bind_some, e6, Option.bind_some, e7, Option.bind_some, e8, Option.bind_some]
  · exact fun i hi => (q1 i (by omega)).trans (h2 i hi)
  · exact fun i hi => (q2 i (by omega)).trans (h3 i hi)
  · exact fun i hi => (q3 i (by omega)).trans (h4 i hi)
  · exact fun i hi => (q4 i (by omega)).trans (h5 i hi)
  · exact fun i hi => (q5 i (by omega)).trans (h6 i hi)
  · exact fun i hi => (q6 i (by omega)).trans (h8 i hi)
  · exact fun i hi => (q7 i (by omega)).trans (h9 i hi)
  · exact fun i hi => (q8 i (by omega)).trans (h11 i hi)
-- marks and weights
def mkN (k r f : Nat) : Nat := if k = 1 then r + f else if k = 2 then r - 3 * f else if k = 3 then Nat.min 50 (r - 3 * f) else if k = 4 then r + f + (if 70 ≤ r then 10 else 0) else r
def wtN (k h : Nat) : Nat := if k = 2 then (h + 1) / 2 else if k = 3 then (h + 1) / 2 + 1 else if k = 5 then 2 * h else h
set_option maxRecDepth 100000 in
theorem mark_9 : ∀ k, k < 6 → ∀ r, r < 100 → ∀ f, f < 10 → m_X9_markBy (nI k) (nI r) (nI f) = some (nI (mkN k r f)) := by decide +kernel
set_option maxRecDepth 100000 in
theorem mark_10 : ∀ k, k < 6 → ∀ r, r < 100 → ∀ f, f < 10 → m_X10_markBy (nI k) (nI f) (nI r) = some (nI (mkN k r f)) := by decide +kernel
set_option maxRecDepth 100000 in
theorem mkN_le : ∀ k, k < 6 → ∀ r, r < 100 → ∀ f, f < 10 → mkN k r f ≤ 118 := by decide +kernel
set_option maxRecDepth 100000 in
theorem mkN_mono : ∀ k, k < 6 → ∀ f, f < 10 → ∀ r, r < 99 → mkN k r f ≤ mkN k (r + 1) f := by decide +kernel
theorem weight_9 : ∀ k, k < 6 → ∀ h, h < 10 → m_X9_weightBy (nI k) (nI h) = some (nI (wtN k h)) := by decide +kernel
theorem wtN_in : ∀ k, k < 6 → ∀ h, h < 10 → 1 ≤ h → 1 ≤ wtN k h ∧ wtN k h ≤ 18 := by decide +kernel
def mkA (A : Sh) (p : Nat) : Nat := mkN (hK A p) (hR A p) (hF A p)
def wtA (A : Sh) (p : Nat) : Nat := wtN (hK A p) (hH A p)
theorem mkA_le {A : Sh} (hok : okS A) {p : Nat} (hp : p < hN A) : mkA A p ≤ 118 := by
  obtain ⟨h1, h2, h3, h4, h5⟩ := hok.1.2 p hp
  exact mkN_le _ (by omega) _ (by omega) _ (by omega)
theorem wtA_in {A : Sh} (hok : okS A) {p : Nat} (hp : p < hN A) : 1 ≤ wtA A p ∧ wtA A p ≤ 18 := by
  obtain ⟨h1, h2, h3, h4, h5⟩ := hok.1.2 p hp
  exact wtN_in _ (by omega) _ (by omega) h4.1
theorem markOf6 {s : T6} {A : Sh} (h : S6 s A) (hok : okS A) {p : Nat} (hp : p < hN A) : m_X6_markOf s (nI p) = some (nI (mkA A p)) := by
  obtain ⟨h1, ⟨h2, h3, h4, h5, h6⟩, -⟩ := h
  obtain ⟨k1, k2, k3, k4, k5⟩ := hok.1.2 p hp
  have n7 := hok.1.1
  unfold m_X6_markOf
  rw [get_in (by omega) (by decide), Option.bind_some, get_in (by omega) (by decide), Option.bind_some, get_in (by omega) (by decide), Option.bind_some, h2 p hp, h3 p hp, h4 p hp, mark_9 _ (by omega) _ (by omega) _ (by omega), Option.bind_some]
  rfl
theorem weightOf6 {s : T6} {A : Sh} (h : S6 s A) (hok : okS A) {p : Nat} (hp : p < hN A) : m_X6_weightOf s (nI p) = some (nI (wtA A p)) := by
  obtain ⟨h1, ⟨h2, h3, h4, h5, h6⟩, -⟩ := h
  obtain ⟨k1, k2, k3, k4, k5⟩ := hok.1.2 p hp
  have n7 := hok.1.1
  unfold m_X6_weightOf
  rw [get_in (by omega) (by decide), Option.bind_some, get_in (by omega) (by decide), Option.bind_some, h3 p hp, h5 p hp, weight_9 _ (by omega) _ (by omega), Option.bind_some]
  rfl
theorem mark10 {s : T10} {A : Sh} (h : S10 s A) (hok : okS A) {p : Nat} (hp : p < hN A) : m_X10_mark s (nI p) = some (nI (mkA A p)) := by
  obtain ⟨h1, ⟨h2, h3, h4, h5, h6⟩, -⟩ := h
  obtain ⟨k1, k2, k3, k4, k5⟩ := hok.1.2 p hp
  have n7 := hok.1.1
  unfold m_X10_mark
  rw [if_pos (inb_nI (by omega) (by decide)), if_pos (inb_nI (by omega) (by decide)), if_pos (inb_nI (by omega) (by decide)), nI_clamp (by omega), h2 p hp, h3 p hp, h4 p hp, mark_10 _ (by omega) _ (by omega) _ (by omega), Option.bind_some]
  rfl
theorem wt_10 : ∀ k, k < 6 → ∀ h, h < 10 → (if nI k = 2 then some ((nI h + 1) / 2) else if nI k = 3 then some ((nI h + 1) / 2 + 1) else if nI k = 5 then some (2 * nI h) else some (nI h)) = some (nI (wtN k h)) := by decide +kernel
theorem weight10 {s : T10} {A : Sh} (h : S10 s A) (hok : okS A) {p : Nat} (hp : p < hN A) : m_X10_weight s (nI p) = some (nI (wtA A p)) := by
  obtain ⟨h1, ⟨h2, h3, h4, h5, h6⟩, -⟩ := h
  obtain ⟨k1, k2, k3, k4, k5⟩ := hok.1.2 p hp
  have n7 := hok.1.1
  unfold m_X10_weight
  simp only [if_pos (inb_nI (show p < 7 by omega) (by decide)), nI_clamp (show p < 2 ^ 31 by omega), h3 p hp, h5 p hp]
  exact wt_10 _ (by omega) _ (by omega)
