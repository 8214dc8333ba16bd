/-! the states of the objects, the mirrors of the methods -/
abbrev TSB : Type := Nat × Nat × (Nat → Int32) × Int32
abbrev T2 : Type := (Nat → Int32)
abbrev T1 : Type := Int64 × Int64
abbrev p1_above (s : T1) : Int64 := s.1
abbrev p1_below (s : T1) : Int64 := s.2
abbrev T6 : Type := T2 × T2 × T2 × T2 × T2 × Int32 × T2 × T2 × Int32 × T2 × Int32 × Int32 × T2
abbrev p6_raws (s : T6) : T2 := s.1
abbrev p6_kinds (s : T6) : T2 := s.2.1
abbrev p6_figures (s : T6) : T2 := s.2.2.1
abbrev p6_heavies (s : T6) : T2 := s.2.2.2.1
abbrev p6_places (s : T6) : T2 := s.2.2.2.2.1
abbrev p6_papers (s : T6) : Int32 := s.2.2.2.2.2.1
abbrev p6_lowers (s : T6) : T2 := s.2.2.2.2.2.2.1
abbrev p6_uppers (s : T6) : T2 := s.2.2.2.2.2.2.2.1
abbrev p6_rules (s : T6) : Int32 := s.2.2.2.2.2.2.2.2.1
abbrev p6_bounds (s : T6) : T2 := s.2.2.2.2.2.2.2.2.2.1
abbrev p6_boundCount (s : T6) : Int32 := s.2.2.2.2.2.2.2.2.2.2.1
abbrev p6_tieWay (s : T6) : Int32 := s.2.2.2.2.2.2.2.2.2.2.2.1
abbrev p6_reached (s : T6) : T2 := s.2.2.2.2.2.2.2.2.2.2.2.2
abbrev T5 : Type := T2 × T2 × T2 × T2 × Int32
abbrev p5_overs (s : T5) : T2 := s.1
abbrev p5_unders (s : T5) : T2 := s.2.1
abbrev p5_marks (s : T5) : T2 := s.2.2.1
abbrev p5_wrongs (s : T5) : T2 := s.2.2.2.1
abbrev p5_papers (s : T5) : Int32 := s.2.2.2.2
abbrev T8 : Type := T2 × T2 × T2 × T2 × T2 × T1 × Int32
abbrev p8_marks (s : T8) : T2 := s.1
abbrev p8_weights (s : T8) : T2 := s.2.1
abbrev p8_places (s : T8) : T2 := s.2.2.1
abbrev p8_aboves (s : T8) : T2 := s.2.2.2.1
abbrev p8_belows (s : T8) : T2 := s.2.2.2.2.1
abbrev p8_reduced (s : T8) : T1 := s.2.2.2.2.2.1
abbrev p8_papers (s : T8) : Int32 := s.2.2.2.2.2.2
abbrev T3 : Type := T2 × T2 × Int32 × Int32 × Int32
abbrev p3_signs (s : T3) : T2 := s.1
abbrev p3_numbers (s : T3) : T2 := s.2.1
abbrev p3_size (s : T3) : Int32 := s.2.2.1
abbrev p3_at (s : T3) : Int32 := s.2.2.2.1
abbrev p3_word (s : T3) : Int32 := s.2.2.2.2
abbrev T7 : Type := (Nat → Int64) × T2 × T2
abbrev p7_cells (s : T7) : (Nat → Int64) := s.1
abbrev p7_sizes (s : T7) : T2 := s.2.1
abbrev p7_made (s : T7) : T2 := s.2.2
abbrev T4 : Type := T8 × T2 × T2 × T2 × Int32 × Int32 × Int32
abbrev p4_values (s : T4) : T8 := s.1
abbrev p4_blocks (s : T4) : T2 := s.2.1
abbrev p4_tops (s : T4) : T2 := s.2.2.1
abbrev p4_bottoms (s : T4) : T2 := s.2.2.2.1
abbrev p4_blocksNow (s : T4) : Int32 := s.2.2.2.2.1
abbrev p4_mergesDone (s : T4) : Int32 := s.2.2.2.2.2.1
abbrev p4_loss (s : T4) : Int32 := s.2.2.2.2.2.2
abbrev T0 : Type := T8 × T5 × T2 × T2 × T2
abbrev p0_values (s : T0) : T8 := s.1
abbrev p0_order (s : T0) : T5 := s.2.1
abbrev p0_sums (s : T0) : T2 := s.2.2.1
abbrev p0_weighs (s : T0) : T2 := s.2.2.2.1
abbrev p0_downs (s : T0) : T2 := s.2.2.2.2
abbrev T9 : Type := T6 × T6 × T6 × Int32 × T3 × T2 × Int32 × T7 × T2 × T5 × T4 × T0 × T1 × TSB
abbrev p9_now (s : T9) : T6 := s.1
abbrev p9_kept (s : T9) : T6 := s.2.1
abbrev p9_spare (s : T9) : T6 := s.2.2.1
abbrev p9_isKept (s : T9) : Int32 := s.2.2.2.1
abbrev p9_letters (s : T9) : T3 := s.2.2.2.2.1
abbrev p9_told (s : T9) : T2 := s.2.2.2.2.2.1
abbrev p9_toldCount (s : T9) : Int32 := s.2.2.2.2.2.2.1
abbrev p9_shelves (s : T9) : T7 := s.2.2.2.2.2.2.2.1
abbrev p9_refusals (s : T9) : T2 := s.2.2.2.2.2.2.2.2.1
abbrev p9_order (s : T9) : T5 := s.2.2.2.2.2.2.2.2.2.1
abbrev p9_standing (s : T9) : T4 := s.2.2.2.2.2.2.2.2.2.2.1
abbrev p9_byRules (s : T9) : T0 := s.2.2.2.2.2.2.2.2.2.2.2.1
abbrev p9_fraction (s : T9) : T1 := s.2.2.2.2.2.2.2.2.2.2.2.2.1
abbrev p9_said (s : T9) : TSB := s.2.2.2.2.2.2.2.2.2.2.2.2.2
abbrev T10 : Type := Int32 × (Nat → Int32) × (Nat → Int32) × (Nat → Int32) × (Nat → Int32) × (Nat → Int32) × Int32 × (Nat → Int32) × (Nat → Int32) × Int32 × (Nat → Int32) × Int32 × (Nat → Int32) × Int32 × (Nat → Int32) × Int32 × (Nat → Int32) × (Nat → Int64) × (Nat → Int32) × (Nat → Int32) × Int32 × (Nat → Int32) × Int64 × Int64 × (Nat → Int32) × Int32 × Int32 × (Nat → Int32) × Int32 × Int32 × (Nat → Int32) × (Nat → Int32) × (Nat → Int32) × Int32 × Int32 × (Nat → Int32)
abbrev p10_papers (s : T10) : Int32 := s.1
abbrev p10_raw (s : T10) : (Nat → Int32) := s.2.1
abbrev p10_kind (s : T10) : (Nat → Int32) := s.2.2.1
abbrev p10_figure (s : T10) : (Nat → Int32) := s.2.2.2.1
abbrev p10_heavy (s : T10) : (Nat → Int32) := s.2.2.2.2.1
abbrev p10_place (s : T10) : (Nat → Int32) := s.2.2.2.2.2.1
abbrev p10_rules (s : T10) : Int32 := s.2.2.2.2.2.2.1
abbrev p10_lower (s : T10) : (Nat → Int32) := s.2.2.2.2.2.2.2.1
abbrev p10_upper (s : T10) : (Nat → Int32) := s.2.2.2.2.2.2.2.2.1
abbrev p10_limits (s : T10) : Int32 := s.2.2.2.2.2.2.2.2.2.1
abbrev p10_limit (s : T10) : (Nat → Int32) := s.2.2.2.2.2.2.2.2.2.2.1
abbrev p10_ties (s : T10) : Int32 := s.2.2.2.2.2.2.2.2.2.2.2.1
abbrev p10_letter (s : T10) : (Nat → Int32) := s.2.2.2.2.2.2.2.2.2.2.2.2.1
abbrev p10_letters (s : T10) : Int32 := s.2.2.2.2.2.2.2.2.2.2.2.2.2.1
abbrev p10_told (s : T10) : (Nat → Int32) := s.2.2.2.2.2.2.2.2.2.2.2.2.2.2.1
abbrev p10_tolds (s : T10) : Int32 := s.2.2.2.2.2.2.2.2.2.2.2.2.2.2.2.1
abbrev p10_places (s : T10) : (Nat → Int32) := s.2.2.2.2.2.2.2.2.2.2.2.2.2.2.2.2.1
abbrev p10_cell (s : T10) : (Nat → Int64) := s.2.2.2.2.2.2.2.2.2.2.2.2.2.2.2.2.2.1
abbrev p10_refusals (s : T10) : (Nat → Int32) := s.2.2.2.2.2.2.2.2.2.2.2.2.2.2.2.2.2.2.1
abbrev p10_imaged (s : T10) : (Nat → Int32) := s.2.2.2.2.2.2.2.2.2.2.2.2.2.2.2.2.2.2.2.1
abbrev p10_hasImage (s : T10) : Int32 := s.2.2.2.2.2.2.2.2.2.2.2.2.2.2.2.2.2.2.2.2.1
abbrev p10_before (s : T10) : (Nat → Int32) := s.2.2.2.2.2.2.2.2.2.2.2.2.2.2.2.2.2.2.2.2.2.1
abbrev p10_up (s : T10) : Int64 := s.2.2.2.2.2.2.2.2.2.2.2.2.2.2.2.2.2.2.2.2.2.2.1
abbrev p10_down (s : T10) : Int64 := s.2.2.2.2.2.2.2.2.2.2.2.2.2.2.2.2.2.2.2.2.2.2.2.1
abbrev p10_beneath (s : T10) : (Nat → Int32) := s.2.2.2.2.2.2.2.2.2.2.2.2.2.2.2.2.2.2.2.2.2.2.2.2.1
abbrev p10_numberUp (s : T10) : Int32 := s.2.2.2.2.2.2.2.2.2.2.2.2.2.2.2.2.2.2.2.2.2.2.2.2.2.1
abbrev p10_numberDown (s : T10) : Int32 := s.2.2.2.2.2.2.2.2.2.2.2.2.2.2.2.2.2.2.2.2.2.2.2.2.2.2.1
abbrev p10_block (s : T10) : (Nat → Int32) := s.2.2.2.2.2.2.2.2.2.2.2.2.2.2.2.2.2.2.2.2.2.2.2.2.2.2.2.1
abbrev p10_blocks (s : T10) : Int32 := s.2.2.2.2.2.2.2.2.2.2.2.2.2.2.2.2.2.2.2.2.2.2.2.2.2.2.2.2.1
abbrev p10_merged (s : T10) : Int32 := s.2.2.2.2.2.2.2.2.2.2.2.2.2.2.2.2.2.2.2.2.2.2.2.2.2.2.2.2.2.1
abbrev p10_valueUp (s : T10) : (Nat → Int32) := s.2.2.2.2.2.2.2.2.2.2.2.2.2.2.2.2.2.2.2.2.2.2.2.2.2.2.2.2.2.2.1
abbrev p10_valueDown (s : T10) : (Nat → Int32) := s.2.2.2.2.2.2.2.2.2.2.2.2.2.2.2.2.2.2.2.2.2.2.2.2.2.2.2.2.2.2.2.1
abbrev p10_said (s : T10) : (Nat → Int32) := s.2.2.2.2.2.2.2.2.2.2.2.2.2.2.2.2.2.2.2.2.2.2.2.2.2.2.2.2.2.2.2.2.1
abbrev p10_saids (s : T10) : Int32 := s.2.2.2.2.2.2.2.2.2.2.2.2.2.2.2.2.2.2.2.2.2.2.2.2.2.2.2.2.2.2.2.2.2.1
abbrev p10_at (s : T10) : Int32 := s.2.2.2.2.2.2.2.2.2.2.2.2.2.2.2.2.2.2.2.2.2.2.2.2.2.2.2.2.2.2.2.2.2.2.1
abbrev p10_number (s : T10) : (Nat → Int32) := s.2.2.2.2.2.2.2.2.2.2.2.2.2.2.2.2.2.2.2.2.2.2.2.2.2.2.2.2.2.2.2.2.2.2.2
def m_X2_get (n0 : Nat) (s0 : T2) (p1 : Int32) : Option (Int32) :=
  if p1 < 0 then (some (0 : Int32)) else (if (nI n0) ≤ p1 then (some (0 : Int32)) else (if inb p1 n0 = true then (some (s0 p1.toNatClampNeg)) else none))
def m_X2_set (n0 : Nat) (s0 : T2) (p1 : Int32) (p2 : Int32) : Option ((Nat → Int32)) :=
  if p1 < 0 then (some s0) else (if (nI n0) ≤ p1 then (some s0) else (if inb p1 n0 = true then (some (upd s0 p1.toNatClampNeg p2)) else none))
def m_X2_add (n0 : Nat) (s0 : T2) (p1 : Int32) (p2 : Int32) : Option ((Nat → Int32)) :=
  (m_X2_get n0 s0 p1).bind fun x1 => (m_X2_set n0 s0 p1 (x1 + p2)).bind fun x2 => some x2
def m_X2_removeAt_l2 (n0 : Nat) (x3 : Int32) (x4 : (Nat → Int32)) : Option ((Int32 × (Nat → Int32)) ⊕ ((Nat → Int32))) :=
  if (nI n0) ≤ x3 then (some (.inr x4)) else ((m_X2_get n0 x4 (x3 + (1 : Int32))).bind fun x5 => (m_X2_set n0 x4 x3 x5).bind fun x6 => some (.inl ((x3 + 1), x6)))
def m_X2_removeAt (n0 : Nat) (s0 : T2) (p1 : Int32) : Option ((Nat → Int32)) :=
  (lp (fun z : Int32 × (Nat → Int32) => m_X2_removeAt_l2 n0 z.1 z.2) fu (p1, s0)).bind fun r7 => some r7
def m_X2_copyFrom_l2 (n0 : Nat) (n1 : Nat) (s1 : T2) (x2 : Int32) (x3 : (Nat → Int32)) : Option ((Int32 × (Nat → Int32)) ⊕ ((Nat → Int32))) :=
  if (nI n0) ≤ x2 then (some (.inr x3)) else ((m_X2_get n1 s1 x2).bind fun x4 => if inb x2 n0 = true then (some (.inl ((x2 + 1), (upd x3 x2.toNatClampNeg x4)))) else none)
def m_X2_copyFrom (n0 : Nat) (s0 : T2) (n1 : Nat) (s1 : T2) : Option ((Nat → Int32)) :=
  (lp (fun z : Int32 × (Nat → Int32) => m_X2_copyFrom_l2 n0 n1 s1 z.1 z.2) fu ((0 : Int32), s0)).bind fun r5 => some r5
def m_X1_commonOf_l31 (x3 : Int64) (x4 : Int64) (x5 : Int32) : Option ((Int64 × Int64 × Int32) ⊕ (Int64)) :=
  if (200 : Int32) ≤ x5 then (some (.inr x3)) else (if x4 = (0 : Int64) then (some (.inr x3)) else (if ¬ x4 = 0 then (some (.inl (x4, (x3 - x3 / x4 * x4), (x5 + 1)))) else none))
def m_X1_commonOf (p0 : Int64) (p2 : Int64) : Option (Int64) :=
  Option.bind (α := Int64) (if (0 : Int64) ≤ p0 then (some p0) else (some (-p0))) fun r1 => Option.bind (α := Int64) (if (0 : Int64) ≤ p2 then (some p2) else (some (-p2))) fun r2 => (lp (fun z : Int64 × Int64 × Int32 => m_X1_commonOf_l31 z.1 z.2.1 z.2.2) fu (r1, r2, (0 : Int32))).bind fun r6 => some r6
def m_X1_make (s0 : T1) (p1 : Int64) (p3 : Int64) : Option (Int64 × Int64) :=
  (m_X1_commonOf p1 p3).bind fun x1 => if p3 ≤ (0 : Int64) then (some ((0 : Int64), (1 : Int64))) else (if (0 : Int64) < x1 then (if ¬ x1 = 0 then (if ¬ x1 = 0 then (some ((p1 / x1), (p3 / x1))) else none) else none) else (some ((0 : Int64), (1 : Int64))))
def m_X1_add (s0 : T1) (p1 : Int64) (p3 : Int64) : Option (Int64 × Int64) :=
  (m_X1_commonOf (p1_below s0) p3).bind fun x1 => if x1 ≤ (0 : Int64) then (some ((p1_above s0), (p1_below s0))) else (if ¬ x1 = 0 then (if ¬ x1 = 0 then (if ¬ x1 = 0 then ((m_X1_make s0 (((p1_above s0) * (p3 / x1)) + (p1 * ((p1_below s0) / x1))) (((p1_below s0) / x1) * p3)).bind fun x2 => some (x2.1, x2.2)) else none) else none) else none)
def m_X1_isBelow (s0 : T1) (p1 : Int64) (p3 : Int64) : Option (Int32) :=
  if (p1 * (p1_below s0)) ≤ ((p1_above s0) * p3) then (some (0 : Int32)) else (some (1 : Int32))
def m_X1_partOf (s0 : T1) (p1 : Int32) : Option (Int64) :=
  if p1 = 0 then (some (p1_above s0)) else (some (p1_below s0))
def m_X6_copyFrom (s0 : T6) (s1 : T6) : Option ((Nat → Int32) × (Nat → Int32) × (Nat → Int32) × (Nat → Int32) × (Nat → Int32) × Int32 × (Nat → Int32) × (Nat → Int32) × Int32 × (Nat → Int32) × Int32 × Int32) :=
  (m_X2_copyFrom 7 (p6_raws s0) 7 (p6_raws s1)).bind fun x1 => (m_X2_copyFrom 7 (p6_kinds s0) 7 (p6_kinds s1)).bind fun x2 => (m_X2_copyFrom 7 (p6_figures s0) 7 (p6_figures s1)).bind fun x3 => (m_X2_copyFrom 7 (p6_heavies s0) 7 (p6_heavies s1)).bind fun x4 => (m_X2_copyFrom 7 (p6_places s0) 7 (p6_places s1)).bind fun x5 => (m_X2_copyFrom 12 (p6_lowers s0) 12 (p6_lowers s1)).bind fun x6 => (m_X2_copyFrom 12 (p6_uppers s0) 12 (p6_uppers s1)).bind fun x7 => (m_X2_copyFrom 5 (p6_bounds s0) 5 (p6_bounds s1)).bind fun x8 => some (x1, x2, x3, x4, x5, (p6_papers s1), x6, x7, (p6_rules s1), x8, (p6_boundCount s1), (p6_tieWay s1))
def m_X6_paperCount (s0 : T6) : Option (Int32) :=
  some (p6_papers s0)
def m_X6_ruleCount (s0 : T6) : Option (Int32) :=
  some (p6_rules s0)
def m_X6_limitCount (s0 : T6) : Option (Int32) :=
  some (p6_boundCount s0)
def m_X6_tiesNow (s0 : T6) : Option (Int32) :=
  some (p6_tieWay s0)
def m_X6_hasPaper (s0 : T6) (p1 : Int32) : Option (Int32) :=
  if p1 < 0 then (some (0 : Int32)) else (if (p6_papers s0) ≤ p1 then (some (0 : Int32)) else (some (1 : Int32)))
def m_X6_areTwo (s0 : T6) (p1 : Int32) (p2 : Int32) : Option (Int32) :=
  (m_X6_hasPaper s0 p1).bind fun x1 => if x1 = 0 then (some (0 : Int32)) else ((m_X6_hasPaper s0 p2).bind fun x2 => if x2 = 0 then (some (0 : Int32)) else (if p1 = p2 then (some (0 : Int32)) else (some (1 : Int32))))
def m_X6_hasRule (s0 : T6) (p1 : Int32) : Option (Int32) :=
  if p1 < 0 then (some (0 : Int32)) else (if (p6_rules s0) ≤ p1 then (some (0 : Int32)) else (some (1 : Int32)))
def m_X6_rawOf (s0 : T6) (p1 : Int32) : Option (Int32) :=
  (m_X2_get 7 (p6_raws s0) p1).bind fun x1 => some x1
def m_X6_kindOf (s0 : T6) (p1 : Int32) : Option (Int32) :=
  (m_X2_get 7 (p6_kinds s0) p1).bind fun x1 => some x1
def m_X6_figureOf (s0 : T6) (p1 : Int32) : Option (Int32) :=
  (m_X2_get 7 (p6_figures s0) p1).bind fun x1 => some x1
def m_X6_heavyOf (s0 : T6) (p1 : Int32) : Option (Int32) :=
  (m_X2_get 7 (p6_heavies s0) p1).bind fun x1 => some x1
def m_X6_placeOf (s0 : T6) (p1 : Int32) : Option (Int32) :=
  (m_X2_get 7 (p6_places s0) p1).bind fun x1 => some x1
def m_X9_markBy (p0 : Int32) (p1 : Int32) (p2 : Int32) : Option (Int32) :=
  if p0 = 1 then (some (p1 + p2)) else if p0 = 2 then ((some (if (0 : Int32) < (p1 - ((3 : Int32) * p2)) then (p1 - ((3 : Int32) * p2)) else (0 : Int32))).bind fun x1 => some x1) else if p0 = 3 then ((some (if (0 : Int32) < (p1 - ((3 : Int32) * p2)) then (p1 - ((3 : Int32) * p2)) else (0 : Int32))).bind fun x2 => (some (if x2 < (50 : Int32) then x2 else (50 : Int32))).bind fun x3 => some x3) else if p0 = 4 then (if p1 < (70 : Int32) then (some ((p1 + p2) + (0 : Int32))) else (some ((p1 + p2) + (10 : Int32)))) else (some p1)
def m_X6_markOf (s0 : T6) (p1 : Int32) : Option (Int32) :=
  (m_X2_get 7 (p6_kinds s0) p1).bind fun x1 => (m_X2_get 7 (p6_raws s0) p1).bind fun x2 => (m_X2_get 7 (p6_figures s0) p1).bind fun x3 => (m_X9_markBy x1 x2 x3).bind fun x4 => some x4
def m_X9_weightBy (p0 : Int32) (p1 : Int32) : Option (Int32) :=
  if p0 = 2 then (some ((p1 + (1 : Int32)) / (2 : Int32))) else if p0 = 3 then (some (((p1 + (1 : Int32)) / (2 : Int32)) + (1 : Int32))) else if p0 = 5 then (some ((2 : Int32) * p1)) else (some p1)
def m_X6_weightOf (s0 : T6) (p1 : Int32) : Option (Int32) :=
  (m_X2_get 7 (p6_kinds s0) p1).bind fun x1 => (m_X2_get 7 (p6_heavies s0) p1).bind fun x2 => (m_X9_weightBy x1 x2).bind fun x3 => some x3
def m_X6_gradeOf_l6 (s0 : T6) (p1 : Int64) (p3 : Int64) (x2 : Int32) (x3 : Int32) : Option ((Int32 × Int32) ⊕ (Int32)) :=
  if (p6_boundCount s0) ≤ x3 then (some (.inr x2)) else ((m_X2_get 5 (p6_bounds s0) x3).bind fun x4 => if p1 < (x4.toInt64 * p3) then (some (.inl (x2, (x3 + 1)))) else (some (.inl ((x2 + 1), (x3 + 1)))))
def m_X6_gradeOf (s0 : T6) (p1 : Int64) (p3 : Int64) : Option (Int32) :=
  (lp (fun z : Int32 × Int32 => m_X6_gradeOf_l6 s0 p1 p3 z.1 z.2) fu ((0 : Int32), (0 : Int32))).bind fun r5 => some r5
def m_X6_lowerOf (s0 : T6) (p1 : Int32) : Option (Int32) :=
  (m_X2_get 12 (p6_lowers s0) p1).bind fun x1 => some x1
def m_X6_upperOf (s0 : T6) (p1 : Int32) : Option (Int32) :=
  (m_X2_get 12 (p6_uppers s0) p1).bind fun x1 => some x1
def m_X6_isBroken (s0 : T6) (p1 : Int32) : Option (Int32) :=
  (m_X2_get 12 (p6_lowers s0) p1).bind fun x1 => (m_X6_markOf s0 x1).bind fun x2 => (m_X2_get 12 (p6_uppers s0) p1).bind fun x3 => (m_X6_markOf s0 x3).bind fun x4 => if x2 ≤ x4 then (some (0 : Int32)) else (some (1 : Int32))
def m_X6_brokenRules_l4 (s0 : T6) (x3 : Int32) (x4 : Int32) : Option ((Int32 × Int32) ⊕ (Int32)) :=
  if (p6_rules s0) ≤ x4 then (some (.inr x3)) else ((m_X6_isBroken s0 x4).bind fun x5 => if x5 = 0 then (some (.inl (x3, (x4 + 1)))) else (some (.inl ((x3 ||| ((1 : Int32) <<< (x4 &&& 31))), (x4 + 1)))))
def m_X6_brokenRules (s0 : T6) : Option (Int32) :=
  (lp (fun z : Int32 × Int32 => m_X6_brokenRules_l4 s0 z.1 z.2) fu ((0 : Int32), (0 : Int32))).bind fun r6 => some r6
def m_X9_hasBit (p0 : Int32) (p1 : Int32) : Option (Int32) :=
  if ((p0 >>> (p1 &&& 31)) &&& (1 : Int32)) = (1 : Int32) then (some (1 : Int32)) else (some (0 : Int32))
def m_X6_trace_0_0_17_l2 (s0 : T6) (x2 : Int32) (x3 : (Nat → Int32)) : Option ((Int32 × (Nat → Int32)) ⊕ ((Nat → Int32))) :=
  if (p6_papers s0) ≤ x2 then (some (.inr x3)) else ((m_X2_set 7 x3 x2 (0 : Int32)).bind fun x4 => some (.inl ((x2 + 1), x4)))
def m_X6_trace_0_0_17_l45 (s0 : T6) (p2 : Int32) (x14 : Int32) (x15 : Int32) (x16 : (Nat → Int32)) : Option ((Int32 × Int32 × (Nat → Int32)) ⊕ (Int32 × (Nat → Int32))) :=
  if (p6_rules s0) ≤ x15 then (some (.inr (x14, x16))) else ((m_X2_get 12 (p6_lowers s0) x15).bind fun x17 => (m_X2_get 7 x16 x17).bind fun x18 => (m_X2_get 12 (p6_uppers s0) x15).bind fun x19 => (m_X2_get 7 x16 x19).bind fun x20 => (m_X2_get 12 (p6_uppers s0) x15).bind fun x21 => (some ((x18 ||| x20) ||| ((1 : Int32) <<< (x21 &&& 31)))).bind fun x22 => if x22 = x18 then (some (.inl (x14, (x15 + 1), x16))) else ((m_X9_hasBit p2 x15).bind fun x23 => if x23 = 0 then ((m_X2_set 7 x16 x17 x22).bind fun x24 => some (.inl ((1 : Int32), (x15 + 1), x24))) else (some (.inl (x14, (x15 + 1), x16)))))
def m_X6_trace_0_0_17_l45_2 (s0 : T6) (p2 : Int32) (x37 : Int32) (x38 : Int32) (x39 : (Nat → Int32)) : Option ((Int32 × Int32 × (Nat → Int32)) ⊕ (Int32 × (Nat → Int32))) :=
  if (p6_rules s0) ≤ x38 then (some (.inr (x37, x39))) else ((m_X2_get 12 (p6_lowers s0) x38).bind fun x40 => (m_X2_get 7 x39 x40).bind fun x41 => (m_X2_get 12 (p6_uppers s0) x38).bind fun x42 => (m_X2_get 7 x39 x42).bind fun x43 => (m_X2_get 12 (p6_uppers s0) x38).bind fun x44 => (some ((x41 ||| x43) ||| ((1 : Int32) <<< (x44 &&& 31)))).bind fun x45 => if x45 = x41 then (some (.inl (x37, (x38 + 1), x39))) else ((m_X9_hasBit p2 x38).bind fun x46 => if x46 = 0 then ((m_X2_set 7 x39 x40 x45).bind fun x47 => some (.inl ((1 : Int32), (x38 + 1), x47))) else (some (.inl (x37, (x38 + 1), x39)))))
def m_X6_trace_0_0_17_l27 (s0 : T6) (p2 : Int32) (x26 : Int32) (x27 : Int32) (x28 : (Nat → Int32)) : Option ((Int32 × Int32 × (Nat → Int32)) ⊕ ((Nat → Int32))) :=
  if (p6_papers s0) ≤ x27 then (some (.inr x28)) else (if x26 = 0 then (some (.inr x28)) else ((lp (fun z : Int32 × Int32 × (Nat → Int32) => m_X6_trace_0_0_17_l45_2 s0 p2 z.1 z.2.1 z.2.2) fu ((0 : Int32), (0 : Int32), x28)).bind fun r48 => some (.inl (r48.1, (x27 + 1), r48.2))))
def m_X6_trace_0_0_17 (s0 : T6) (p2 : Int32) : Option ((Nat → Int32)) :=
  (lp (fun z : Int32 × (Nat → Int32) => m_X6_trace_0_0_17_l2 s0 z.1 z.2) fu ((0 : Int32), (p6_reached s0))).bind fun r5 => (lp (fun z : Int32 × Int32 × (Nat → Int32) => m_X6_trace_0_0_17_l27 s0 p2 z.1 z.2.1 z.2.2) fu ((1 : Int32), (0 : Int32), r5)).bind fun r49 => some r49
def m_X6_isUnder (s0 : T6) (p1 : Int32) (p2 : Int32) : Option (Int32 × (Nat → Int32)) :=
  (m_X6_trace_0_0_17 s0 (0 : Int32)).bind fun x1 => (m_X2_get 7 x1 p1).bind fun x2 => (m_X9_hasBit x2 p2).bind fun x3 => some (x3, x1)
def m_X6_trace_l2 (s0 : T6) (n1 : Nat) (x2 : Int32) (x3 : (Nat → Int32)) : Option ((Int32 × (Nat → Int32)) ⊕ ((Nat → Int32))) :=
  if (p6_papers s0) ≤ x2 then (some (.inr x3)) else ((m_X2_set n1 x3 x2 (0 : Int32)).bind fun x4 => some (.inl ((x2 + 1), x4)))
def m_X6_trace_l45 (s0 : T6) (n1 : Nat) (p2 : Int32) (x14 : Int32) (x15 : Int32) (x16 : (Nat → Int32)) : Option ((Int32 × Int32 × (Nat → Int32)) ⊕ (Int32 × (Nat → Int32))) :=
  if (p6_rules s0) ≤ x15 then (some (.inr (x14, x16))) else ((m_X2_get 12 (p6_lowers s0) x15).bind fun x17 => (m_X2_get n1 x16 x17).bind fun x18 => (m_X2_get 12 (p6_uppers s0) x15).bind fun x19 => (m_X2_get n1 x16 x19).bind fun x20 => (m_X2_get 12 (p6_uppers s0) x15).bind fun x21 => (some ((x18 ||| x20) ||| ((1 : Int32) <<< (x21 &&& 31)))).bind fun x22 => if x22 = x18 then (some (.inl (x14, (x15 + 1), x16))) else ((m_X9_hasBit p2 x15).bind fun x23 => if x23 = 0 then ((m_X2_set n1 x16 x17 x22).bind fun x24 => some (.inl ((1 : Int32), (x15 + 1), x24))) else (some (.inl (x14, (x15 + 1), x16)))))
def m_X6_trace_l45_2 (s0 : T6) (n1 : Nat) (p2 : Int32) (x37 : Int32) (x38 : Int32) (x39 : (Nat → Int32)) : Option ((Int32 × Int32 × (Nat → Int32)) ⊕ (Int32 × (Nat → Int32))) :=
  if (p6_rules s0) ≤ x38 then (some (.inr (x37, x39))) else ((m_X2_get 12 (p6_lowers s0) x38).bind fun x40 => (m_X2_get n1 x39 x40).bind fun x41 => (m_X2_get 12 (p6_uppers s0) x38).bind fun x42 => (m_X2_get n1 x39 x42).bind fun x43 => (m_X2_get 12 (p6_uppers s0) x38).bind fun x44 => (some ((x41 ||| x43) ||| ((1 : Int32) <<< (x44 &&& 31)))).bind fun x45 => if x45 = x41 then (some (.inl (x37, (x38 + 1), x39))) else ((m_X9_hasBit p2 x38).bind fun x46 => if x46 = 0 then ((m_X2_set n1 x39 x40 x45).bind fun x47 => some (.inl ((1 : Int32), (x38 + 1), x47))) else (some (.inl (x37, (x38 + 1), x39)))))
def m_X6_trace_l27 (s0 : T6) (n1 : Nat) (p2 : Int32) (x26 : Int32) (x27 : Int32) (x28 : (Nat → Int32)) : Option ((Int32 × Int32 × (Nat → Int32)) ⊕ ((Nat → Int32))) :=
  if (p6_papers s0) ≤ x27 then (some (.inr x28)) else (if x26 = 0 then (some (.inr x28)) else ((lp (fun z : Int32 × Int32 × (Nat → Int32) => m_X6_trace_l45_2 s0 n1 p2 z.1 z.2.1 z.2.2) fu ((0 : Int32), (0 : Int32), x28)).bind fun r48 => some (.inl (r48.1, (x27 + 1), r48.2))))
def m_X6_trace (s0 : T6) (n1 : Nat) (s1 : T2) (p2 : Int32) : Option ((Nat → Int32)) :=
  (lp (fun z : Int32 × (Nat → Int32) => m_X6_trace_l2 s0 n1 z.1 z.2) fu ((0 : Int32), s1)).bind fun r5 => (lp (fun z : Int32 × Int32 × (Nat → Int32) => m_X6_trace_l27 s0 n1 p2 z.1 z.2.1 z.2.2) fu ((1 : Int32), (0 : Int32), r5)).bind fun r49 => some r49
def m_X6_addPaper (s0 : T6) (p1 : Int32) : Option (Int32 × (Nat → Int32) × (Nat → Int32) × (Nat → Int32) × (Nat → Int32) × (Nat → Int32) × Int32) :=
  if 0 ≤ p1 then (if (99 : Int32) < p1 then (some ((-6 : Int32), (p6_raws s0), (p6_kinds s0), (p6_figures s0), (p6_heavies s0), (p6_places s0), (p6_papers s0))) else (if (p6_papers s0) < (7 : Int32) then ((m_X2_set 7 (p6_raws s0) (p6_papers s0) p1).bind fun x1 => (m_X2_set 7 (p6_kinds s0) (p6_papers s0) (0 : Int32)).bind fun x2 => (m_X2_set 7 (p6_figures s0) (p6_papers s0) (0 : Int32)).bind fun x3 => (m_X2_set 7 (p6_heavies s0) (p6_papers s0) (1 : Int32)).bind fun x4 => (m_X2_set 7 (p6_places s0) (p6_papers s0) (p6_papers s0)).bind fun x5 => some ((((p6_papers s0) + (1 : Int32)) - (1 : Int32)), x1, x2, x3, x4, x5, ((p6_papers s0) + (1 : Int32)))) else (some ((-6 : Int32), (p6_raws s0), (p6_kinds s0), (p6_figures s0), (p6_heavies s0), (p6_places s0), (p6_papers s0))))) else (some ((-4 : Int32), (p6_raws s0), (p6_kinds s0), (p6_figures s0), (p6_heavies s0), (p6_places s0), (p6_papers s0)))
def m_X6_setKind (s0 : T6) (p1 : Int32) (p2 : Int32) (p3 : Int32) : Option (Int32 × (Nat → Int32) × (Nat → Int32)) :=
  (m_X6_hasPaper s0 p1).bind fun x1 => if x1 = 0 then (some ((-1 : Int32), (p6_kinds s0), (p6_figures s0))) else (if p2 < 0 then (some ((-2 : Int32), (p6_kinds s0), (p6_figures s0))) else (if p2 ≤ (5 : Int32) then (if 0 ≤ p3 then (if p3 ≤ (9 : Int32) then ((m_X2_get 7 (p6_kinds s0) p1).bind fun x2 => (m_X2_get 7 (p6_figures s0) p1).bind fun x3 => (m_X2_set 7 (p6_kinds s0) p1 p2).bind fun x4 => (m_X2_set 7 (p6_figures s0) p1 p3).bind fun x5 => some ((((10 : Int32) * x2) + x3), x4, x5)) else (some ((-6 : Int32), (p6_kinds s0), (p6_figures s0)))) else (some ((-4 : Int32), (p6_kinds s0), (p6_figures s0)))) else (some ((-2 : Int32), (p6_kinds s0), (p6_figures s0)))))
def m_X6_swap_0_0_1 (s0 : T6) (p2 : Int32) (p3 : Int32) (p4 : Int32) (p5 : Int32) : Option (Int32 × (Nat → Int32)) :=
  (m_X6_hasPaper s0 p2).bind fun x1 => if x1 = 0 then (some ((-1 : Int32), (p6_raws s0))) else (if p4 ≤ p3 then (if p3 ≤ p5 then ((m_X2_get 7 (p6_raws s0) p2).bind fun x2 => (m_X2_set 7 (p6_raws s0) p2 p3).bind fun x3 => some (x2, x3)) else (some ((-6 : Int32), (p6_raws s0)))) else (some ((-4 : Int32), (p6_raws s0))))
def m_X6_setRaw (s0 : T6) (p1 : Int32) (p2 : Int32) : Option (Int32 × (Nat → Int32)) :=
  (m_X6_swap_0_0_1 s0 p1 p2 (0 : Int32) (99 : Int32)).bind fun x1 => some (x1.1, x1.2)
def m_X6_swap_0_0_7 (s0 : T6) (p2 : Int32) (p3 : Int32) (p4 : Int32) (p5 : Int32) : Option (Int32 × (Nat → Int32)) :=
  (m_X6_hasPaper s0 p2).bind fun x1 => if x1 = 0 then (some ((-1 : Int32), (p6_heavies s0))) else (if p4 ≤ p3 then (if p3 ≤ p5 then ((m_X2_get 7 (p6_heavies s0) p2).bind fun x2 => (m_X2_set 7 (p6_heavies s0) p2 p3).bind fun x3 => some (x2, x3)) else (some ((-6 : Int32), (p6_heavies s0)))) else (some ((-4 : Int32), (p6_heavies s0))))
def m_X6_setHeavy (s0 : T6) (p1 : Int32) (p2 : Int32) : Option (Int32 × (Nat → Int32)) :=
  (m_X6_swap_0_0_7 s0 p1 p2 (1 : Int32) (9 : Int32)).bind fun x1 => some (x1.1, x1.2)
def m_X6_swap_0_0_9 (s0 : T6) (p2 : Int32) (p3 : Int32) (p4 : Int32) (p5 : Int32) : Option (Int32 × (Nat → Int32)) :=
  (m_X6_hasPaper s0 p2).bind fun x1 => if x1 = 0 then (some ((-1 : Int32), (p6_places s0))) else (if p4 ≤ p3 then (if p3 ≤ p5 then ((m_X2_get 7 (p6_places s0) p2).bind fun x2 => (m_X2_set 7 (p6_places s0) p2 p3).bind fun x3 => some (x2, x3)) else (some ((-6 : Int32), (p6_places s0)))) else (some ((-4 : Int32), (p6_places s0))))
def m_X6_setPlace (s0 : T6) (p1 : Int32) (p2 : Int32) : Option (Int32 × (Nat → Int32)) :=
  (m_X6_swap_0_0_9 s0 p1 p2 (0 : Int32) (9 : Int32)).bind fun x1 => some (x1.1, x1.2)
def m_X6_swap (s0 : T6) (n1 : Nat) (s1 : T2) (p2 : Int32) (p3 : Int32) (p4 : Int32) (p5 : Int32) : Option (Int32 × (Nat → Int32)) :=
  (m_X6_hasPaper s0 p2).bind fun x1 => if x1 = 0 then (some ((-1 : Int32), s1)) else (if p4 ≤ p3 then (if p3 ≤ p5 then ((m_X2_get n1 s1 p2).bind fun x2 => (m_X2_set n1 s1 p2 p3).bind fun x3 => some (x2, x3)) else (some ((-6 : Int32), s1))) else (some ((-4 : Int32), s1)))
def m_X6_isThere_l2 (s0 : T6) (p1 : Int32) (p2 : Int32) (x3 : Int32) : Option ((Int32) ⊕ ((Unit) ⊕ (Unit))) :=
  if (p6_rules s0) ≤ x3 then (some (.inr (.inr ()))) else ((m_X2_get 12 (p6_lowers s0) x3).bind fun x4 => if x4 = p1 then ((m_X2_get 12 (p6_uppers s0) x3).bind fun x5 => if x5 = p2 then (some (.inr (.inl ()))) else (some (.inl (x3 + 1)))) else (some (.inl (x3 + 1))))
def m_X6_isThere (s0 : T6) (p1 : Int32) (p2 : Int32) : Option (Int32) :=
  (lp (fun z : Int32 => m_X6_isThere_l2 s0 p1 p2 z) fu (0 : Int32)).bind fun r6 => match r6 with | .inl x7 => (some (1 : Int32)) | .inr x8 => (some (0 : Int32))
def m_X6_addRule (s0 : T6) (p1 : Int32) (p2 : Int32) : Option (Int32 × (Nat → Int32) × (Nat → Int32) × Int32 × (Nat → Int32)) :=
  (m_X6_areTwo s0 p1 p2).bind fun x1 => if x1 = 0 then (some ((-1 : Int32), (p6_lowers s0), (p6_uppers s0), (p6_rules s0), (p6_reached s0))) else ((m_X6_isThere s0 p1 p2).bind fun x2 => if x2 = 0 then ((m_X6_isUnder s0 p2 p1).bind fun x3 => if x3.1 = 0 then (if (p6_rules s0) < (12 : Int32) then ((m_X2_set 12 (p6_lowers s0) (p6_rules s0) p1).bind fun x4 => (m_X2_set 12 (p6_uppers s0) (p6_rules s0) p2).bind fun x5 => some ((((p6_rules s0) + (1 : Int32)) - (1 : Int32)), x4, x5, ((p6_rules s0) + (1 : Int32)), x3.2)) else (some ((-6 : Int32), (p6_lowers s0), (p6_uppers s0), (p6_rules s0), x3.2))) else (some ((-3 : Int32), (p6_lowers s0), (p6_uppers s0), (p6_rules s0), x3.2))) else (some ((-3 : Int32), (p6_lowers s0), (p6_uppers s0), (p6_rules s0), (p6_reached s0))))
def m_X6_takeRule (s0 : T6) (p1 : Int32) : Option (Int32 × (Nat → Int32) × (Nat → Int32) × Int32) :=
  (m_X6_hasRule s0 p1).bind fun x1 => if x1 = 0 then (some ((-1 : Int32), (p6_lowers s0), (p6_uppers s0), (p6_rules s0))) else ((m_X2_removeAt 12 (p6_lowers s0) p1).bind fun x2 => (m_X2_removeAt 12 (p6_uppers s0) p1).bind fun x3 => some (((p6_rules s0) - (1 : Int32)), x2, x3, ((p6_rules s0) - (1 : Int32))))
def m_X6_addLimit (s0 : T6) (p1 : Int32) : Option (Int32 × (Nat → Int32) × Int32) :=
  if (1 : Int32) ≤ p1 then (if (99 : Int32) < p1 then (some ((-6 : Int32), (p6_bounds s0), (p6_boundCount s0))) else (if (p6_boundCount s0) < (5 : Int32) then (Option.bind (α := (Unit) ⊕ (Int32 × (Nat → Int32) × Int32)) (if (p6_boundCount s0) ≤ 0 then (some (.inl ())) else ((m_X2_get 5 (p6_bounds s0) ((p6_boundCount s0) - (1 : Int32))).bind fun x5 => if x5 < p1 then (some (.inl ())) else (some (.inr ((-3 : Int32), (p6_bounds s0), (p6_boundCount s0)))))) fun r2 => match r2 with | .inl x3 => ((m_X2_set 5 (p6_bounds s0) (p6_boundCount s0) p1).bind fun x4 => some (((p6_boundCount s0) + (1 : Int32)), x4, ((p6_boundCount s0) + (1 : Int32)))) | .inr v => some v) else (some ((-6 : Int32), (p6_bounds s0), (p6_boundCount s0))))) else (some ((-4 : Int32), (p6_bounds s0), (p6_boundCount s0)))
def m_X6_takeLimits (s0 : T6) : Option (Int32 × Int32) :=
  some ((p6_boundCount s0), (0 : Int32))
def m_X6_setTies (s0 : T6) (p1 : Int32) : Option (Int32 × Int32) :=
  if p1 < 0 then (some ((-2 : Int32), (p6_tieWay s0))) else (if p1 ≤ (2 : Int32) then (some ((p6_tieWay s0), p1)) else (some ((-2 : Int32), (p6_tieWay s0))))
def m_X3_numberAt (s0 : T3) (p1 : Int32) : Option (Int32) :=
  (m_X2_get 3 (p3_numbers s0) p1).bind fun x1 => some x1
def m_X3_wordRead (s0 : T3) : Option (Int32) :=
  some (p3_word s0)
def m_X6_take (s0 : T6) (s1 : T3) : Option (Int32 × (Nat → Int32) × (Nat → Int32) × (Nat → Int32) × (Nat → Int32) × (Nat → Int32) × Int32 × (Nat → Int32) × (Nat → Int32) × Int32 × (Nat → Int32) × Int32 × Int32 × (Nat → Int32)) :=
  (m_X3_numberAt s1 (0 : Int32)).bind fun x1 => (m_X3_numberAt s1 (1 : Int32)).bind fun x2 => (m_X3_wordRead s1).bind fun x3 => if x3 = 0 then ((m_X6_addPaper s0 x1).bind fun x4 => some (x4.1, x4.2.1, x4.2.2.1, x4.2.2.2.1, x4.2.2.2.2.1, x4.2.2.2.2.2.1, x4.2.2.2.2.2.2, (p6_lowers s0), (p6_uppers s0), (p6_rules s0), (p6_bounds s0), (p6_boundCount s0), (p6_tieWay s0), (p6_reached s0))) else if x3 = 1 then ((m_X3_numberAt s1 (2 : Int32)).bind fun x5 => (m_X6_setKind s0 x1 x2 x5).bind fun x6 => some (x6.1, (p6_raws s0), x6.2.1, x6.2.2, (p6_heavies s0), (p6_places s0), (p6_papers s0), (p6_lowers s0), (p6_uppers s0), (p6_rules s0), (p6_bounds s0), (p6_boundCount s0), (p6_tieWay s0), (p6_reached s0))) else if x3 = 2 then ((m_X6_setHeavy s0 x1 x2).bind fun x7 => some (x7.1, (p6_raws s0), (p6_kinds s0), (p6_figures s0), x7.2, (p6_places s0), (p6_papers s0), (p6_lowers s0), (p6_uppers s0), (p6_rules s0), (p6_bounds s0), (p6_boundCount s0), (p6_tieWay s0), (p6_reached s0))) else if x3 = 3 then ((m_X6_setPlace s0 x1 x2).bind fun x8 => some (x8.1, (p6_raws s0), (p6_kinds s0), (p6_figures s0), (p6_heavies s0), x8.2, (p6_papers s0), (p6_lowers s0), (p6_uppers s0), (p6_rules s0), (p6_bounds s0), (p6_boundCount s0), (p6_tieWay s0), (p6_reached s0))) else if x3 = 4 then ((m_X6_addRule s0 x1 x2).bind fun x9 => some (x9.1, (p6_raws s0), (p6_kinds s0), (p6_figures s0), (p6_heavies s0), (p6_places s0), (p6_papers s0), x9.2.1, x9.2.2.1, x9.2.2.2.1, (p6_bounds s0), (p6_boundCount s0), (p6_tieWay s0), x9.2.2.2.2)) else if x3 = 5 then ((m_X6_takeRule s0 x1).bind fun x10 => some (x10.1, (p6_raws s0), (p6_kinds s0), (p6_figures s0), (p6_heavies s0), (p6_places s0), (p6_papers s0), x10.2.1, x10.2.2.1, x10.2.2.2, (p6_bounds s0), (p6_boundCount s0), (p6_tieWay s0), (p6_reached s0))) else if x3 = 6 then ((m_X6_addLimit s0 x1).bind fun x11 => some (x11.1, (p6_raws s0), (p6_kinds s0), (p6_figures s0), (p6_heavies s0), (p6_places s0), (p6_papers s0), (p6_lowers s0), (p6_uppers s0), (p6_rules s0), x11.2.1, x11.2.2, (p6_tieWay s0), (p6_reached s0))) else if x3 = 7 then ((m_X6_setTies s0 x1).bind fun x12 => some (x12.1, (p6_raws s0), (p6_kinds s0), (p6_figures s0), (p6_heavies s0), (p6_places s0), (p6_papers s0), (p6_lowers s0), (p6_uppers s0), (p6_rules s0), (p6_bounds s0), (p6_boundCount s0), x12.2, (p6_reached s0))) else (some ((-3 : Int32), (p6_raws s0), (p6_kinds s0), (p6_figures s0), (p6_heavies s0), (p6_places s0), (p6_papers s0), (p6_lowers s0), (p6_uppers s0), (p6_rules s0), (p6_bounds s0), (p6_boundCount s0), (p6_tieWay s0), (p6_reached s0)))
