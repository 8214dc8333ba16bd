/-! needs: the reference, the call -/
theorem S10_raw {s : T10} {A : Sh} (h : S10 s A) {p v : Nat} {f : Nat → Int32} (hf : Eqn f (setF (hR A) p v) (hN A)) : S10 (u10_raw f s) (aRaw A p v) := by
  obtain ⟨h1, ⟨h2, h3, h4, h5, h6⟩, ⟨h7, h8, h9⟩, ⟨h10, h11⟩, h12⟩ := h
  exact ⟨h1, ⟨hf, h3, h4, h5, h6⟩, ⟨h7, h8, h9⟩, ⟨h10, h11⟩, h12⟩
theorem S10_stM {s : T10} {A : Sh} (h : S10 s A) (x : T5r) : S10 (stM s x) A := S10_mk h (by dsimp only [c10])
theorem S10_needs {s : T10} {A : Sh} (h : S10 s A) {f : Nat → Int32} (hf : Eqn f (hR A) (hN A)) (a : Int32) (r : Nat → Int32) (q : T5r) : S10 (st_X10_needs s (a, f, r, q)) A := by
  have h1 : s.1 = nI (hN A) := h.1
  have h3 : Eqn s.2.2.1 (hK A) (hN A) := h.2.1.2.1
  have h4 : Eqn s.2.2.2.1 (hF A) (hN A) := h.2.1.2.2.1
  have h5 : Eqn s.2.2.2.2.1 (hH A) (hN A) := h.2.1.2.2.2.1
  have h6 : Eqn s.2.2.2.2.2.1 (hP A) (hN A) := h.2.1.2.2.2.2
  have h7 : s.2.2.2.2.2.2.1 = nI (hU A) := h.2.2.1.1
  have h8 : Eqn s.2.2.2.2.2.2.2.1 (hL A) (hU A) := h.2.2.1.2.1
  have h9 : Eqn s.2.2.2.2.2.2.2.2.1 (hO A) (hU A) := h.2.2.1.2.2
  have h10 : s.2.2.2.2.2.2.2.2.2.1 = nI (hB A) := h.2.2.2.1.1
  have h11 : Eqn s.2.2.2.2.2.2.2.2.2.2.1 (hM A) (hB A) := h.2.2.2.1.2
  have h12 : s.2.2.2.2.2.2.2.2.2.2.2.1 = nI (hT A) := h.2.2.2.2
  exact ⟨h1, ⟨hf, h3, h4, h5, h6⟩, ⟨h7, h8, h9⟩, ⟨h10, h11⟩, h12⟩
set_option maxHeartbeats 60000 in
theorem needs10 {s : T10} {A : Sh} (h : S10 s A) (hok : okS A) {l p g N : Nat} (hl : l < 3) (hp : p < hN A) (hg : g ≤ 5) (hNN : N ≤ 100) (cu : ∀ v, v < 100 → (gr A l p v < g ↔ v < N)) (x : T5r) : ∃ (f : Nat → Int32) (q : T5r), lp (fun z : Int32 × Int32 × (Nat → Int32) × Int64 × Int64 × (Nat → Int32) × (Nat → Int32) × (Nat → Int32) => m_X10_needs_l66 s (nI l) (nI p) (nI g) z.1 z.2.1 z.2.2.1 z.2.2.2.1 z.2.2.2.2.1 z.2.2.2.2.2.1 z.2.2.2.2.2.2.1 z.2.2.2.2.2.2.2) fu ((-9 : Int32), (0 : Int32), p10_raw s, x) = some ((if N ≤ 99 then nI N else -9), f, q) ∧ ∀ i, i < hN A → i ≠ p → f i = nI (hR A i) := by
  have n7 := hok.1.1
  have ib : inb (nI p) 7 = true := inb_nI (by omega) (by decide)
  have cl : (nI p).toNatClampNeg = p := nI_clamp (by omega)
  obtain ⟨⟨a, f, q⟩, e, q1, q2⟩ := lp_invf (f := fun z : Int32 × Int32 × (Nat → Int32) × Int64 × Int64 × (Nat → Int32) × (Nat → Int32) × (Nat → Int32) => m_X10_needs_l66 s (nI l) (nI p) (nI g) z.1 z.2.1 z.2.2.1 z.2.2.2.1 z.2.2.2.2.1 z.2.2.2.2.2.1 z.2.2.2.2.2.2.1 z.2.2.2.2.2.2.2) (I := fun d z => ∃ v y f x, v ≤ 100 ∧ d = 100 - v ∧ z = (y, nI v, f, x) ∧ (∀ i, i < hN A → i ≠ p → f i = nI (hR A i)) ∧ ((y = -9 ∧ v ≤ N) ∨ (y = nI N ∧ N ≤ 99))) (Q := fun y => y.1 = (if N ≤ 99 then nI N else -9) ∧ ∀ i, i < hN A → i ≠ p → y.2.1 i = nI (hR A i)) (d := 100) (s := ((-9 : Int32), (0 : Int32), p10_raw s, x)) (by
    rintro d z ⟨v, y, f, x, hv, hd, rfl, hf, st⟩
    rcases Nat.lt_or_ge v 100 with q | q
    · have nv : ¬ (100 : Int32) ≤ nI v := nI_ge (b := 100) q (by omega)
      rcases st with ⟨rfl, st⟩ | ⟨rfl, st⟩
      · have ok1 : okS (aRaw A p v) := okRaw hok (by omega)
        have hf' : Eqn (upd f p (nI v)) (setF (hR A) p v) (hN A) := fun i hi => by
          by_cases w : i = p
          · rw [w, upd_at, setF_at]
          · rw [upd_ne w, setF_ne w]
            exact hf i hi w
        have h1 := S10_raw h hf'
        have h2 : S10 (stM (u10_raw (upd f p (nI v)) s) x) (aRaw A p v) := S10_stM h1 x
        obtain ⟨y, y1, y2⟩ := gradeBy10 h2 ok1 hl hp
        have y1' : m_X10_gradeBy (stM (u10_raw (upd f p (nI v)) s) x) (nI l) (nI p) = some (nI (gr A l p v), y) := y1
        have gb : gr A l p v ≤ 5 := by
          have := grd_le (aRaw A p v) (nI (vU (aRaw A p v) l 0 p)).toInt64 (nI (vD (aRaw A p v) l 0 p)).toInt64 (hB A)
          have := hok.2.2.1.1
          unfold gr
          omega
        have cc := cu v q
        have hf2 : ∀ i, i < hN A → i ≠ p → upd f p (nI v) i = nI (hR A i) := fun i hi w => by rw [upd_ne w]; exact hf i hi w
        have go : m_X10_needs_l66 s (nI l) (nI p) (nI g) (-9) (nI v) f x.1 x.2.1 x.2.2.1 x.2.2.2.1 x.2.2.2.2 = if gr A l p v < g then some (.inl (-9, nI (v + 1), upd f p (nI v), y)) else some (.inl (nI v, nI (v + 1), upd f p (nI v), y)) := by
          unfold m_X10_needs_l66
          rw [if_neg nv, if_pos rfl, if_pos ib, cl, y1', Option.bind_some, nI_1]
          by_cases w : gr A l p v < g
          · rw [if_pos w, if_pos ((nI_lti (by omega) (by omega)).mpr w)]
          · rw [if_neg w, if_neg (fun z => w ((nI_lti (by omega) (by omega)).mp z))]
        refine Or.inl ?_
        by_cases w : gr A l p v < g
        · rw [if_pos w] at go
          exact ⟨100 - (v + 1), _, go, by omega, v + 1, _, _, y, by omega, rfl, rfl, hf2, Or.inl ⟨rfl, cc.mp w⟩⟩
        · rw [if_neg w] at go
          have eN : v = N := by
            have : ¬ v < N := fun z => w (cc.mpr z)
            omega
          exact ⟨100 - (v + 1), _, go, by omega, v + 1, _, _, y, by omega, rfl, rfl, hf2, Or.inr ⟨by rw [eN], by omega⟩⟩
      · refine Or.inr ⟨(nI N, f, x), ?_, by rw [if_pos st], hf⟩
        show m_X10_needs_l66 s (nI l) (nI p) (nI g) (nI N) (nI v) f x.1 x.2.1 x.2.2.1 x.2.2.2.1 x.2.2.2.2 = _
        unfold m_X10_needs_l66
        rw [if_neg nv, if_neg (show ¬ nI N = -9 by rw [i_eq, nI_toInt (by omega), show (-9 : Int32).toInt = -9 from rfl]; omega)]
    · refine Or.inr ⟨(y, f, x), ?_, ?_, hf⟩
      · show m_X10_needs_l66 s (nI l) (nI p) (nI g) y (nI v) f x.1 x.2.1 x.2.2.1 x.2.2.2.1 x.2.2.2.2 = _
        unfold m_X10_needs_l66
        rw [if_pos (show (100 : Int32) ≤ nI v from nI_le (a := 100) q (by omega))]
      · rcases st with ⟨rfl, st⟩ | ⟨rfl, st⟩
        · rw [if_neg (by omega)]
        · rw [if_pos st]) ⟨0, -9, p10_raw s, x, by omega, rfl, rfl, fun i hi _ => h.2.1.1 i hi, Or.inl ⟨rfl, Nat.zero_le _⟩⟩ (by omega)
  have q1 : a = (if N ≤ 99 then nI N else -9) := q1
  rw [q1] at e
  exact ⟨f, q, e, q2⟩
set_option maxHeartbeats 100000 in
theorem op_needs : OP_needs Rel := by
  intro s9 s10 p1 p2 p3 ⟨A, hok, h6, h10, rI, rL, rT, rH, rR, rS, rB⟩
  have n7 := hok.1.1
  have bad : ∀ (c : Int32) (k : Nat), k < 7 → -c = nI k → m_X9_needs s9 p1 p2 p3 = (m_X9use s9 c).bind (fun x6 => some (x6.1, p6_raws (p9_spare s9), p6_kinds (p9_spare s9), p6_figures (p9_spare s9), p6_heavies (p9_spare s9), p6_places (p9_spare s9), p6_papers (p9_spare s9), p6_lowers (p9_spare s9), p6_uppers (p9_spare s9), p6_rules (p9_spare s9), p6_bounds (p9_spare s9), p6_boundCount (p9_spare s9), p6_tieWay (p9_spare s9), x6.2, cur0 (p9_byRules s9))) → m_X10_needs s10 p1 p2 p3 = (m_X10_no s10 c).bind (fun x8 => some (x8.1, p10_raw s10, x8.2, cur10 s10)) → ∃ u v, m_X9_needs s9 p1 p2 p3 = some u ∧ m_X10_needs s10 p1 p2 p3 = some v ∧ u.1 = v.1 ∧ Rel (st_X9_needs s9 u) (st_X10_needs s10 v) := by
    intro c k hk hc e9 e10
    rw [use9 s9 hk hc, Option.bind_some] at e9
    rw [no10 s10 hk hc, Option.bind_some] at e10
    exact ⟨_, _, e9, e10, rfl, Rel_q rI rL rT rH (by dsimp only [keep9q, st_X9_needs]) (by dsimp only [keep10, st_X10_needs]) hok (by dsimp only [st_X9_needs]; exact h6) (S10_mk h10 (by dsimp only [c10, st_X10_needs])) (by dsimp only [st_X9_needs, st_X10_needs]; exact Req_cnt rR hk) (by dsimp only [st_X9_needs]; exact rS) (by dsimp only [RelB, st_X9_needs, cur0]; exact rB)⟩
  rcases why_cases (s9 := s9) h6 h10 hok p1 p2 with ⟨l, p, hl, hp, rfl, rfl, w9, w1, w2⟩ | ⟨w9, w1⟩ | ⟨w9, w1, w2⟩
  · have ib : inb (nI p) 7 = true := inb_nI (by omega) (by decide)
    have cl : (nI p).toNatClampNeg = p := nI_clamp (by omega)
    by_cases c1 : 0 ≤ p3
    · by_cases c2 : p3 ≤ 5
      · have c1' := c1
        rw [i_le, z32] at c1'
        have c2' := c2
        rw [i_le, show (5 : Int32).toInt = 5 from rfl] at c2'
        obtain ⟨g, hg, rfl⟩ := num_of (x := p3) (m := 5) c1' (by omega)
        obtain ⟨x1, e1, hx⟩ := copy6 (s := p9_spare s9) h6 hok
        obtain ⟨N, hNN, cu⟩ := cut 100 (fun v => gr A l p v < g) (fun v v' a b c => Nat.lt_of_le_of_lt (gr_mono hok hl hp a (by omega)) c)
        obtain ⟨f, r, r1, r2⟩ := needs9 (s9 := s9) hok hx rB hl hp hg hNN cu
        obtain ⟨k, q, q1, q2⟩ := needs10 h10 hok hl hp hg hNN cu (cur10 s10)
        have raw' : Eqn (upd k p (p10_raw s10 p)) (hR A) (hN A) := fun i hi => by
          by_cases w : i = p
          · rw [w, upd_at]; exact h10.2.1.1 p hp
          · rw [upd_ne w]; exact q2 i hi w
        have S' := S10_needs h10 raw' (if N ≤ 99 then nI N else -9) (p10_refusals s10) q
        refine ⟨((if N ≤ 99 then nI N else -9), f, x1.2.1, x1.2.2.1, x1.2.2.2.1, x1.2.2.2.2.1, x1.2.2.2.2.2.1, x1.2.2.2.2.2.2.1, x1.2.2.2.2.2.2.2.1, x1.2.2.2.2.2.2.2.2.1, x1.2.2.2.2.2.2.2.2.2.1, x1.2.2.2.2.2.2.2.2.2.2.1, x1.2.2.2.2.2.2.2.2.2.2.2, p9_refusals s9, r), ((if N ≤ 99 then nI N else -9), upd k p (p10_raw s10 p), p10_refusals s10, q), ?_, ?_, rfl, Rel_q rI rL rT rH (by dsimp only [keep9q, st_X9_needs]) (by dsimp only [keep10, st_X10_needs]) hok (by dsimp only [st_X9_needs]; exact h6) S' (by dsimp only [st_X9_needs, st_X10_needs]; exact rR) (by dsimp only [st_X9_needs]; exact rS) (by dsimp only [RelB, st_X9_needs]; exact r2)⟩
        · unfold m_X9_needs m_X9_leastRaw
          have r1' := r1
          unfold cur0 at r1'
          rw [w9, Option.bind_some, if_pos rfl, if_pos c1, Option.bind_some, if_pos rfl, if_pos c2, Option.bind_some, if_pos rfl, e1, Option.bind_some, r1', Option.bind_some]
          by_cases w : N ≤ 99
          · rw [if_pos (show nI N ≤ (99 : Int32) by rw [i_le, nI_toInt (by omega), show (99 : Int32).toInt = 99 from rfl]; omega), if_pos w]
            rfl
          · rw [if_neg (show ¬ nI N ≤ (99 : Int32) by rw [i_le, nI_toInt (by omega), show (99 : Int32).toInt = 99 from rfl]; omega), if_neg w]
            rfl
        · unfold m_X10_needs
          have q1' := q1
          unfold cur10 at q1'
          rw [w1, Option.bind_some, if_neg (by decide), w2, Option.bind_some, if_neg (by decide), if_pos c1, if_pos c2, if_pos ib, q1', Option.bind_some, if_pos ib, cl]
      · refine bad (-6) 6 (by decide) (by decide) ?_ ?_
        · unfold m_X9_needs
          rw [w9, Option.bind_some, if_pos rfl, if_pos c1, Option.bind_some, if_pos rfl, if_neg c2, Option.bind_some, if_neg (by decide)]
          rfl
        · unfold m_X10_needs
          rw [w1, Option.bind_some, if_neg (by decide), w2, Option.bind_some, if_neg (by decide), if_pos c1, if_neg c2]
          rfl
    · refine bad (-4) 4 (by decide) (by decide) ?_ ?_
      · unfold m_X9_needs
        rw [w9, Option.bind_some, if_pos rfl, if_neg c1, Option.bind_some, if_neg (by decide), Option.bind_some, if_neg (by decide)]
        rfl
      · unfold m_X10_needs
        rw [w1, Option.bind_some, if_neg (by decide), w2, Option.bind_some, if_neg (by decide), if_neg c1]
        rfl
  · refine bad (-2) 2 (by decide) (by decide) ?_ ?_
    · unfold m_X9_needs
      rw [w9, Option.bind_some, if_neg (by decide), Option.bind_some, if_neg (by decide), Option.bind_some, if_neg (by decide)]
      rfl
    · unfold m_X10_needs
      rw [w1, Option.bind_some, if_pos rfl]
      rfl
  · refine bad (-1) 1 (by decide) (by decide) ?_ ?_
    · unfold m_X9_needs
      rw [w9, Option.bind_some, if_neg (by decide), Option.bind_some, if_neg (by decide), Option.bind_some, if_neg (by decide)]
      rfl
    · unfold m_X10_needs
      rw [w1, Option.bind_some, if_neg (by decide), w2, Option.bind_some, if_pos rfl]
      rfl
