/-! lots: the call -/
abbrev stO (s o : T5) : T5 := u5_papers o.2.2.2.2 (u5_wrongs o.2.2.2.1 (u5_marks o.2.2.1 (u5_unders o.2.1 (u5_overs o.1 s))))
theorem S10_before {s : T10} {A : Sh} (h : S10 s A) (f : Nat → Int32) : S10 (u10_before f s) A := S10_mk h (by dsimp only [c10])
theorem lot9 {s9 : T9} {B : Sh} (s6 : T6) (h : S6 s6 B) (hok : okS B) (a : T0) (o : T5) : ∃ u : T5, m_X9_pairsIn_0_0_39 (u9_byRules a (u9_order o (u9_spare s6 s9))) = some (nI (sm (fun p => pcn (wrg B 0 p)) (hN B)), u) := by
  have h' : S6 (p9_spare (u9_byRules a (u9_order o (u9_spare s6 s9)))) B := h
  exact pairsIn9 h' hok
theorem lotsL {s9 : T9} {s10 : T10} {A : Sh} (hok : okS A) (h10 : S10 s10 A) (rB : RelB s9) {x1 : T12} (hx : S6 (cp6 x1 x1.1 (p9_spare s9)) A) {m : Nat} (hm : m ≤ 20) (z p3 : Int32) (x2 : Nat → Int32) (f0 g0 : Nat → Int32) (o0 : T5) (q0 : T5r) : ∃ (a : Int32) (f g : Nat → Int32) (o : T5) (r : T16) (q : T5r), lp (fun z : Int32 × Int32 × Int32 × (Nat → Int32) × (Nat → Int32) × (Nat → Int32) × (Nat → Int32) × (Nat → Int32) × Int32 × (Nat → Int32) × (Nat → Int32) × (Nat → Int32) × (Nat → Int32) × (Nat → Int32) × Int64 × Int64 × Int32 × (Nat → Int32) × (Nat → Int32) × (Nat → Int32) × (Nat → Int32) × Int32 × (Nat → Int32) × (Nat → Int32) × (Nat → Int32) => m_X9_drawAll_l20 s9 (nI m) p3 x1 z.1 z.2.1 z.2.2.1 z.2.2.2.1 z.2.2.2.2.1 z.2.2.2.2.2.1 z.2.2.2.2.2.2.1 z.2.2.2.2.2.2.2.1 z.2.2.2.2.2.2.2.2.1 z.2.2.2.2.2.2.2.2.2.1 z.2.2.2.2.2.2.2.2.2.2.1 z.2.2.2.2.2.2.2.2.2.2.2.1 z.2.2.2.2.2.2.2.2.2.2.2.2.1 z.2.2.2.2.2.2.2.2.2.2.2.2.2.1 z.2.2.2.2.2.2.2.2.2.2.2.2.2.2.1 z.2.2.2.2.2.2.2.2.2.2.2.2.2.2.2.1 z.2.2.2.2.2.2.2.2.2.2.2.2.2.2.2.2.1 z.2.2.2.2.2.2.2.2.2.2.2.2.2.2.2.2.2.1 z.2.2.2.2.2.2.2.2.2.2.2.2.2.2.2.2.2.2.1 z.2.2.2.2.2.2.2.2.2.2.2.2.2.2.2.2.2.2.2.1 z.2.2.2.2.2.2.2.2.2.2.2.2.2.2.2.2.2.2.2.2.1 z.2.2.2.2.2.2.2.2.2.2.2.2.2.2.2.2.2.2.2.2.2.1 z.2.2.2.2.2.2.2.2.2.2.2.2.2.2.2.2.2.2.2.2.2.2.1 z.2.2.2.2.2.2.2.2.2.2.2.2.2.2.2.2.2.2.2.2.2.2.2.1 z.2.2.2.2.2.2.2.2.2.2.2.2.2.2.2.2.2.2.2.2.2.2.2.2) fu (z, (0 : Int32), (0 : Int32), f0, o0.1, o0.2.1, o0.2.2.1, o0.2.2.2.1, o0.2.2.2.2, cur0 (p9_byRules s9)) = some (a, f, o.1, o.2.1, o.2.2.1, o.2.2.2.1, o.2.2.2.2, r) ∧ lp (fun z : Int32 × Int32 × Int32 × (Nat → Int32) × Int64 × Int64 × (Nat → Int32) × (Nat → Int32) × (Nat → Int32) => m_X10_lots_l58 s10 (nI m) p3 x2 z.1 z.2.1 z.2.2.1 z.2.2.2.1 z.2.2.2.2.1 z.2.2.2.2.2.1 z.2.2.2.2.2.2.1 z.2.2.2.2.2.2.2.1 z.2.2.2.2.2.2.2.2) fu (z, (0 : Int32), (0 : Int32), g0, q0) = some (a, g, q) ∧ zero3 r := by
  obtain ⟨s, t, e1, e2, a, f, g, o, r, q, rfl, rfl, z3⟩ := lp_relf (f := fun z : Int32 × Int32 × Int32 × (Nat → Int32) × (Nat → Int32) × (Nat → Int32) × (Nat → Int32) × (Nat → Int32) × Int32 × (Nat → Int32) × (Nat → Int32) × (Nat → Int32) × (Nat → Int32) × (Nat → Int32) × Int64 × Int64 × Int32 × (Nat → Int32) × (Nat → Int32) × (Nat → Int32) × (Nat → Int32) × Int32 × (Nat → Int32) × (Nat → Int32) × (Nat → Int32) => m_X9_drawAll_l20 s9 (nI m) p3 x1 z.1 z.2.1 z.2.2.1 z.2.2.2.1 z.2.2.2.2.1 z.2.2.2.2.2.1 z.2.2.2.2.2.2.1 z.2.2.2.2.2.2.2.1 z.2.2.2.2.2.2.2.2.1 z.2.2.2.2.2.2.2.2.2.1 z.2.2.2.2.2.2.2.2.2.2.1 z.2.2.2.2.2.2.2.2.2.2.2.1 z.2.2.2.2.2.2.2.2.2.2.2.2.1 z.2.2.2.2.2.2.2.2.2.2.2.2.2.1 z.2.2.2.2.2.2.2.2.2.2.2.2.2.2.1 z.2.2.2.2.2.2.2.2.2.2.2.2.2.2.2.1 z.2.2.2.2.2.2.2.2.2.2.2.2.2.2.2.2.1 z.2.2.2.2.2.2.2.2.2.2.2.2.2.2.2.2.2.1 z.2.2.2.2.2.2.2.2.2.2.2.2.2.2.2.2.2.2.1 z.2.2.2.2.2.2.2.2.2.2.2.2.2.2.2.2.2.2.2.1 z.2.2.2.2.2.2.2.2.2.2.2.2.2.2.2.2.2.2.2.2.1 z.2.2.2.2.2.2.2.2.2.2.2.2.2.2.2.2.2.2.2.2.2.1 z.2.2.2.2.2.2.2.2.2.2.2.2.2.2.2.2.2.2.2.2.2.2.1 z.2.2.2.2.2.2.2.2.2.2.2.2.2.2.2.2.2.2.2.2.2.2.2.1 z.2.2.2.2.2.2.2.2.2.2.2.2.2.2.2.2.2.2.2.2.2.2.2.2) (g := fun z : Int32 × Int32 × Int32 × (Nat → Int32) × Int64 × Int64 × (Nat → Int32) × (Nat → Int32) × (Nat → Int32) => m_X10_lots_l58 s10 (nI m) p3 x2 z.1 z.2.1 z.2.2.1 z.2.2.2.1 z.2.2.2.2.1 z.2.2.2.2.2.1 z.2.2.2.2.2.2.1 z.2.2.2.2.2.2.2.1 z.2.2.2.2.2.2.2.2) (I := fun d s t => ∃ k y c f g o r q, k ≤ m ∧ d = m - k ∧ s = (y, c, nI k, f, (o : T5).1, (o : T5).2.1, (o : T5).2.2.1, (o : T5).2.2.2.1, (o : T5).2.2.2.2, (r : T16)) ∧ t = (y, c, nI k, g, (q : T5r)) ∧ zero3 r) (Q := fun s t => ∃ a f g o r q, s = (a, f, (o : T5).1, (o : T5).2.1, (o : T5).2.2.1, (o : T5).2.2.2.1, (o : T5).2.2.2.2, (r : T16)) ∧ t = (a, g, (q : T5r)) ∧ zero3 r) (d := m) (s := (z, (0 : Int32), (0 : Int32), f0, o0.1, o0.2.1, o0.2.2.1, o0.2.2.2.1, o0.2.2.2.2, cur0 (p9_byRules s9))) (t := (z, (0 : Int32), (0 : Int32), g0, q0)) (by
    rintro d s t ⟨k, y, c, f, g, o, r, q, hk, hd, rfl, rfl, z3⟩
    rcases Nat.lt_or_ge k m with w | w
    · obtain ⟨y', f', g', R, d1, d2, r0, r1, r2⟩ := draws hok h10 hx y f g
      have okR := okRaws hok r0
      have h6 := cp6_raws hx r1
      have hs : S10 (stM (u10_before x2 (u10_raw g' s10)) q) (aRaws A R) := S10_stM (S10_before (S10_raws h10 r2) x2) q
      refine Or.inl ?_
      by_cases p0 : p3 = 0
      · obtain ⟨u, u1⟩ := lot9 (s9 := s9) _ h6 okR (stB (p9_byRules s9) r) (stO (p9_order s9) o)
        obtain ⟨v, v1, v2⟩ := pairMany10 hs okR
        refine ⟨m - (k + 1), (y', c + nI (sm (fun p => pcn (wrg (aRaws A R) 0 p)) (hN (aRaws A R))), nI (k + 1), f', u.1, u.2.1, u.2.2.1, u.2.2.2.1, u.2.2.2.2, r), (y', c + nI (sm (fun p => pcn (wrg (aRaws A R) 0 p)) (hN (aRaws A R))), nI (k + 1), g', q.1, q.2.1, v, q.2.2.2.1, q.2.2.2.2), ?_, ?_, by omega, k + 1, y', _, f', g', u, r, (q.1, q.2.1, v, q.2.2.2.1, q.2.2.2.2), by omega, rfl, rfl, rfl, z3⟩
        · show m_X9_drawAll_l20 s9 (nI m) p3 x1 y c (nI k) f o.1 o.2.1 o.2.2.1 o.2.2.2.1 o.2.2.2.2 r.1 r.2.1 r.2.2.1 r.2.2.2.1 r.2.2.2.2.1 r.2.2.2.2.2.1 r.2.2.2.2.2.2.1 r.2.2.2.2.2.2.2.1 r.2.2.2.2.2.2.2.2.1 r.2.2.2.2.2.2.2.2.2.1 r.2.2.2.2.2.2.2.2.2.2.1 r.2.2.2.2.2.2.2.2.2.2.2.1 r.2.2.2.2.2.2.2.2.2.2.2.2.1 r.2.2.2.2.2.2.2.2.2.2.2.2.2.1 r.2.2.2.2.2.2.2.2.2.2.2.2.2.2.1 r.2.2.2.2.2.2.2.2.2.2.2.2.2.2.2 = _
          unfold m_X9_drawAll_l20
          rw [if_neg (nI_ge w (by omega)), d1, Option.bind_some, if_pos p0, u1, Option.bind_some, nI_1]
        · show m_X10_lots_l58 s10 (nI m) p3 x2 y c (nI k) g q.1 q.2.1 q.2.2.1 q.2.2.2.1 q.2.2.2.2 = _
          unfold m_X10_lots_l58
          rw [if_neg (nI_ge w (by omega)), d2, Option.bind_some, if_pos p0, v1, Option.bind_some, nI_1]
      · obtain ⟨r', a1, a2, a3⟩ := values9 (stB (p9_byRules s9) r) h6 okR z3 (l := 0) (W := 0) (by decide) (by decide)
        have a2' : V9 (stV (p9_byRules s9) r') (aRaws A R) (vU (aRaws A R) 0 0) (vD (aRaws A R) 0 0) := by
          have b2 : V9 (stV (stB (p9_byRules s9) r) r') (aRaws A R) (vU (aRaws A R) 0 0) (vD (aRaws A R) 0 0) := a2
          rw [stV_fl] at b2
          rw [stV_fl]
          exact b2
        have a1' : m_X0_work (stB (p9_byRules s9) r) (cp6 x1 f' (p9_spare s9)) 0 0 = some r' := a1
        have po := pooled8 okR a2' h6
        obtain ⟨v, v1⟩ := inPools10 hs okR
        refine ⟨m - (k + 1), (y', c + nI (pcn (plo (aRaws A R) (sme (aRaws A R) (vU (aRaws A R) 0 0) (vD (aRaws A R) 0 0)) (hU (aRaws A R)))), nI (k + 1), f', o.1, o.2.1, o.2.2.1, o.2.2.2.1, o.2.2.2.2, r'), (y', c + nI (pcn (plo (aRaws A R) (sme (aRaws A R) (vU (aRaws A R) 0 0) (vD (aRaws A R) 0 0)) (hU (aRaws A R)))), nI (k + 1), g', v), ?_, ?_, by omega, k + 1, y', _, f', g', o, r', v, by omega, rfl, rfl, rfl, a3⟩
        · show m_X9_drawAll_l20 s9 (nI m) p3 x1 y c (nI k) f o.1 o.2.1 o.2.2.1 o.2.2.2.1 o.2.2.2.2 r.1 r.2.1 r.2.2.1 r.2.2.2.1 r.2.2.2.2.1 r.2.2.2.2.2.1 r.2.2.2.2.2.2.1 r.2.2.2.2.2.2.2.1 r.2.2.2.2.2.2.2.2.1 r.2.2.2.2.2.2.2.2.2.1 r.2.2.2.2.2.2.2.2.2.2.1 r.2.2.2.2.2.2.2.2.2.2.2.1 r.2.2.2.2.2.2.2.2.2.2.2.2.1 r.2.2.2.2.2.2.2.2.2.2.2.2.2.1 r.2.2.2.2.2.2.2.2.2.2.2.2.2.2.1 r.2.2.2.2.2.2.2.2.2.2.2.2.2.2.2 = _
          unfold m_X9_drawAll_l20
          rw [if_neg (nI_ge w (by omega)), d1, Option.bind_some, if_neg p0, a1', Option.bind_some, po, Option.bind_some, nI_1]
        · show m_X10_lots_l58 s10 (nI m) p3 x2 y c (nI k) g q.1 q.2.1 q.2.2.1 q.2.2.2.1 q.2.2.2.2 = _
          unfold m_X10_lots_l58
          rw [if_neg (nI_ge w (by omega)), d2, Option.bind_some, if_neg p0, v1, Option.bind_some, nI_1]
    · refine Or.inr ⟨(c, f, o.1, o.2.1, o.2.2.1, o.2.2.2.1, o.2.2.2.2, r), (c, g, q), ?_, ?_, c, f, g, o, r, q, rfl, rfl, z3⟩
      · show m_X9_drawAll_l20 s9 (nI m) p3 x1 y c (nI k) f o.1 o.2.1 o.2.2.1 o.2.2.2.1 o.2.2.2.2 r.1 r.2.1 r.2.2.1 r.2.2.2.1 r.2.2.2.2.1 r.2.2.2.2.2.1 r.2.2.2.2.2.2.1 r.2.2.2.2.2.2.2.1 r.2.2.2.2.2.2.2.2.1 r.2.2.2.2.2.2.2.2.2.1 r.2.2.2.2.2.2.2.2.2.2.1 r.2.2.2.2.2.2.2.2.2.2.2.1 r.2.2.2.2.2.2.2.2.2.2.2.2.1 r.2.2.2.2.2.2.2.2.2.2.2.2.2.1 r.2.2.2.2.2.2.2.2.2.2.2.2.2.2.1 r.2.2.2.2.2.2.2.2.2.2.2.2.2.2.2 = _
        unfold m_X9_drawAll_l20
        rw [if_pos (nI_le w (by omega))]
      · show m_X10_lots_l58 s10 (nI m) p3 x2 y c (nI k) g q.1 q.2.1 q.2.2.1 q.2.2.2.1 q.2.2.2.2 = _
        unfold m_X10_lots_l58
        rw [if_pos (nI_le w (by omega))]) ⟨0, z, 0, f0, g0, o0, cur0 (p9_byRules s9), q0, Nat.zero_le _, rfl, rfl, rfl, rB⟩ (by omega)
  exact ⟨a, f, g, o, r, q, e1, e2, z3⟩
set_option maxHeartbeats 100000 in
theorem op_lots : OP_lots Rel := by
  intro s9 s10 p1 p2 p3 ⟨A, hok, h6, h10, rI, rL, rT, rH, rR, rS, rB⟩
  have bad : ∀ (c : Int32) (k : Nat), k < 7 → -c = nI k → m_X9_lots s9 p1 p2 p3 = (m_X9use s9 c).bind (fun x6 => some (x6.1, p6_raws (p9_spare s9), p6_kinds (p9_spare s9), p6_figures (p9_spare s9), p6_heavies (p9_spare s9), p6_places (p9_spare s9), p6_papers (p9_spare s9), p6_lowers (p9_spare s9), p6_uppers (p9_spare s9), p6_rules (p9_spare s9), p6_bounds (p9_spare s9), p6_boundCount (p9_spare s9), p6_tieWay (p9_spare s9), x6.2, p5_overs (p9_order s9), p5_unders (p9_order s9), p5_marks (p9_order s9), p5_wrongs (p9_order s9), p5_papers (p9_order s9), cur0 (p9_byRules s9))) → m_X10_lots s10 p1 p2 p3 = (m_X10_no s10 c).bind (fun x8 => some (x8.1, p10_papers s10, p10_raw s10, p10_kind s10, p10_figure s10, p10_heavy s10, p10_place s10, p10_rules s10, p10_lower s10, p10_upper s10, p10_limits s10, p10_limit s10, p10_ties s10, x8.2, p10_before s10, cur10 s10)) → ∃ u v, m_X9_lots s9 p1 p2 p3 = some u ∧ m_X10_lots s10 p1 p2 p3 = some v ∧ u.1 = v.1 ∧ Rel (st_X9_lots s9 u) (st_X10_lots s10 v) := by
    intro c k hk hc e9 e10
    rw [use9 s9 hk hc, Option.bind_some] at e9
    rw [no10 s10 hk hc, Option.bind_some] at e10
    exact ⟨_, _, e9, e10, rfl, Rel_q rI rL rT rH (by dsimp only [keep9q, st_X9_lots]) (by dsimp only [keep10, st_X10_lots]) hok (by dsimp only [st_X9_lots]; exact h6) (S10_mk h10 (by dsimp only [c10, st_X10_lots])) (by dsimp only [st_X9_lots, st_X10_lots]; exact Req_cnt rR hk) (by dsimp only [st_X9_lots]; exact rS) (by dsimp only [RelB, st_X9_lots, cur0]; exact rB)⟩
  by_cases c1 : 1 ≤ p1
  · by_cases c2 : p1 ≤ 20
    · rcases part_cases p3 with ⟨pc, e9, e10⟩ | ⟨e9, e10⟩
      · have c1' := c1
        rw [i_le, show (1 : Int32).toInt = 1 from rfl] at c1'
        have c2' := c2
        rw [i_le, show (20 : Int32).toInt = 20 from rfl] at c2'
        obtain ⟨m, hm, rfl⟩ := num_of (x := p1) (m := 20) (by omega) (by omega)
        obtain ⟨x1, y1, hx⟩ := copy6 (s := p9_spare s9) h6 hok
        obtain ⟨x2, y2, hy⟩ := keepsB h10 hok
        obtain ⟨a, f, g, o, r, q, l9, l10, z3⟩ := lotsL hok h10 rB hx hm p2 p3 x2 x1.1 (p10_raw s10) (p5_overs (p9_order s9), p5_unders (p9_order s9), p5_marks (p9_order s9), p5_wrongs (p9_order s9), p5_papers (p9_order s9)) (cur10 s10)
        have hb : SI10 (p10_before (stM (u10_before x2 (u10_raw g s10)) q)) A := hy
        obtain ⟨w, w0, w1, w2, w3, w4, w5, w6, w7, w8, w9, w10, w11, w12⟩ := againB hb hok
        refine ⟨(a, f, x1.2.1, x1.2.2.1, x1.2.2.2.1, x1.2.2.2.2.1, x1.2.2.2.2.2.1, x1.2.2.2.2.2.2.1, x1.2.2.2.2.2.2.2.1, x1.2.2.2.2.2.2.2.2.1, x1.2.2.2.2.2.2.2.2.2.1, x1.2.2.2.2.2.2.2.2.2.2.1, x1.2.2.2.2.2.2.2.2.2.2.2, p9_refusals s9, o.1, o.2.1, o.2.2.1, o.2.2.2.1, o.2.2.2.2, r), (a, w.1, w.2.1, w.2.2.1, w.2.2.2.1, w.2.2.2.2.1, w.2.2.2.2.2.1, w.2.2.2.2.2.2.1, w.2.2.2.2.2.2.2.1, w.2.2.2.2.2.2.2.2.1, w.2.2.2.2.2.2.2.2.2.1, w.2.2.2.2.2.2.2.2.2.2.1, w.2.2.2.2.2.2.2.2.2.2.2, p10_refusals s10, x2, q), ?_, ?_, rfl, Rel_q rI rL rT rH (by dsimp only [keep9q, st_X9_lots]) (by dsimp only [keep10, st_X10_lots]) hok (by dsimp only [st_X9_lots]; exact h6) ⟨w1, ⟨w2, w3, w4, w5, w6⟩, ⟨w7, w8, w9⟩, ⟨w10, w11⟩, w12⟩ (by dsimp only [st_X9_lots, st_X10_lots]; exact rR) (by dsimp only [st_X9_lots]; exact rS) (by dsimp only [RelB, st_X9_lots]; exact z3)⟩
        · unfold m_X9_lots m_X9_drawAll
          have l9' := l9
          unfold cur0 at l9'
          rw [if_pos c1, if_pos c2, e9, Option.bind_some, if_neg (by decide), y1, Option.bind_some, l9', Option.bind_some]
          rfl
        · unfold m_X10_lots
          have l10' := l10
          unfold cur10 at l10'
          rw [if_pos c1, if_pos c2, e10, Option.bind_some, if_neg (by decide), y2, Option.bind_some, l10', Option.bind_some, w0, Option.bind_some]
      · refine bad (-2) 2 (by decide) (by decide) ?_ ?_
        · unfold m_X9_lots
          rw [if_pos c1, if_pos c2, e9, Option.bind_some, if_pos rfl]
          rfl
        · unfold m_X10_lots
          rw [if_pos c1, if_pos c2, e10, Option.bind_some, if_pos rfl]
          rfl
    · refine bad (-6) 6 (by decide) (by decide) ?_ ?_
      · unfold m_X9_lots
        rw [if_pos c1, if_neg c2]
        rfl
      · unfold m_X10_lots
        rw [if_pos c1, if_neg c2]
        rfl
  · refine bad (-4) 4 (by decide) (by decide) ?_ ?_
    · unfold m_X9_lots
      rw [if_neg c1]
      rfl
    · unfold m_X10_lots
      rw [if_neg c1]
      rfl
