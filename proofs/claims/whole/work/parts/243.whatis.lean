/-! whatIs -/
def tld (c : Nat → Nat) (m k f : Nat) : Bool := decide (∀ i, i < m → c i = mkN k (10 * i) f)
theorem tld9 {s9 : T9} {c : Nat → Nat} {m : Nat} (hm : m ≤ 10) (h1 : p9_toldCount s9 = nI m) (hc : ∀ i, i < m → c i < 1000) (h2 : Eqn (p9_told s9) c m) {k f : Nat} (hk : k < 6) (hf : f < 10) : m_X9_isAsTold s9 (nI k) (nI f) = some (if tld c m k f = true then 1 else 0) := by
  obtain ⟨r, e, q⟩ := lp_invf (f := fun z : Int32 => m_X9_isAsTold_l2 s9 (nI k) (nI f) z) (I := fun d z => ∃ t, t ≤ m ∧ d = m - t ∧ z = nI t ∧ ∀ i, i < t → c i = mkN k (10 * i) f) (Q := fun r => (r = .inr () ∧ ∀ i, i < m → c i = mkN k (10 * i) f) ∨ (r = .inl () ∧ ¬ ∀ i, i < m → c i = mkN k (10 * i) f)) (d := m) (s := 0) (by
    rintro d z ⟨t, ht, hd, rfl, no⟩
    rcases Nat.lt_or_ge t m with q | q
    · have a1 := hc t q
      have a2 := mkN_le k hk (10 * t) (by omega) f hf
      have go : m_X9_isAsTold_l2 s9 (nI k) (nI f) (nI t) = if c t = mkN k (10 * t) f then some (.inl (nI (t + 1))) else some (.inr (.inl ())) := by
        unfold m_X9_isAsTold_l2
        rw [h1, if_neg (nI_ge q (by omega)), get_in (by omega) (by decide), Option.bind_some, h2 t q, show (10 : Int32) = nI 10 from rfl, nI_mul, mark_9 k hk (10 * t) (by omega) f hf, Option.bind_some, nI_1]
        by_cases w : c t = mkN k (10 * t) f
        · rw [if_pos w, if_pos (by rw [w])]
        · rw [if_neg w, if_neg (fun x => w (nI_inj (by omega) (by omega) x))]
      rw [go]
      by_cases w : c t = mkN k (10 * t) f
      · rw [if_pos w]
        refine Or.inl ⟨m - (t + 1), _, rfl, by omega, t + 1, by omega, rfl, rfl, fun i hi => ?_⟩
        rcases Nat.lt_or_ge i t with y | y
        · exact no i y
        · rw [show i = t by omega]; exact w
      · rw [if_neg w]
        exact Or.inr ⟨_, rfl, Or.inr ⟨rfl, fun x => w (x t q)⟩⟩
    · refine Or.inr ⟨.inr (), ?_, Or.inl ⟨rfl, fun i hi => no i (by omega)⟩⟩
      unfold m_X9_isAsTold_l2
      rw [h1, if_pos (nI_le q (by omega))]) ⟨0, Nat.zero_le _, rfl, rfl, fun i hi => absurd hi (Nat.not_lt_zero i)⟩ (by omega)
  unfold m_X9_isAsTold
  rw [e, Option.bind_some]
  rcases q with ⟨rfl, q⟩ | ⟨rfl, q⟩
  · rw [if_pos (show tld c m k f = true from decide_eq_true q)]
  · rw [if_neg (show ¬ tld c m k f = true from fun x => q (of_decide_eq_true x))]
theorem tld10 {s10 : T10} {c : Nat → Nat} {m : Nat} (hm : m ≤ 10) (h1 : p10_tolds s10 = nI m) (hc : ∀ i, i < m → c i < 1000) (h2 : Eqn (p10_told s10) c m) {k f : Nat} (hk : k < 6) (hf : f < 10) : m_X10_isTold s10 (nI k) (nI f) = some (if tld c m k f = true then 1 else 0) := by
  obtain ⟨r, e, q⟩ := lp_invf (f := fun z : Int32 => m_X10_isTold_l2 s10 (nI k) (nI f) z) (I := fun d z => ∃ t, t ≤ m ∧ d = m - t ∧ z = nI t ∧ ∀ i, i < t → c i = mkN k (10 * i) f) (Q := fun r => (r = .inr () ∧ ∀ i, i < m → c i = mkN k (10 * i) f) ∨ (r = .inl () ∧ ¬ ∀ i, i < m → c i = mkN k (10 * i) f)) (d := m) (s := 0) (by
    rintro d z ⟨t, ht, hd, rfl, no⟩
    rcases Nat.lt_or_ge t m with q | q
    · have a1 := hc t q
      have a2 := mkN_le k hk (10 * t) (by omega) f hf
      have go : m_X10_isTold_l2 s10 (nI k) (nI f) (nI t) = if c t = mkN k (10 * t) f then some (.inl (nI (t + 1))) else some (.inr (.inl ())) := by
        unfold m_X10_isTold_l2
        rw [h1, if_neg (nI_ge q (by omega)), if_pos (inb_nI (by omega) (by decide)), nI_clamp (by omega), h2 t q, show (10 : Int32) = nI 10 from rfl, nI_mul, mark_10 k hk (10 * t) (by omega) f hf, Option.bind_some, nI_1]
        by_cases w : c t = mkN k (10 * t) f
        · rw [if_pos w, if_pos (by rw [w])]
        · rw [if_neg w, if_neg (fun x => w (nI_inj (by omega) (by omega) x))]
      rw [go]
      by_cases w : c t = mkN k (10 * t) f
      · rw [if_pos w]
        refine Or.inl ⟨m - (t + 1), _, rfl, by omega, t + 1, by omega, rfl, rfl, fun i hi => ?_⟩
        rcases Nat.lt_or_ge i t with y | y
        · exact no i y
        · rw [show i = t by omega]; exact w
      · rw [if_neg w]
        exact Or.inr ⟨_, rfl, Or.inr ⟨rfl, fun x => w (x t q)⟩⟩
    · refine Or.inr ⟨.inr (), ?_, Or.inl ⟨rfl, fun i hi => no i (by omega)⟩⟩
      unfold m_X10_isTold_l2
      rw [h1, if_pos (nI_le q (by omega))]) ⟨0, Nat.zero_le _, rfl, rfl, fun i hi => absurd hi (Nat.not_lt_zero i)⟩ (by omega)
  unfold m_X10_isTold
  rw [e, Option.bind_some]
  rcases q with ⟨rfl, q⟩ | ⟨rfl, q⟩
  · rw [if_pos (show tld c m k f = true from decide_eq_true q)]
  · rw [if_neg (show ¬ tld c m k f = true from fun x => q (of_decide_eq_true x))]
theorem op_whatIs : OP_whatIs Rel := by
  intro s9 s10 p1 p2 ⟨A, hok, h6, h10, rI, rL, rT, rH, rR, rS, rB⟩
  obtain ⟨m, c, hm, t1, t2, hc, t3, t4⟩ := id rT
  have n7 := hok.1.1
  rcases paper_cases h6 h10 hok p1 with ⟨p, hp, rfl, e6, e10⟩ | ⟨e6, e10⟩
  · obtain ⟨k1, k2, k3, k4, k5⟩ := hok.1.2 p hp
    have ib : inb (nI p) 7 = true := inb_nI (by omega) (by decide)
    have cl : (nI p).toNatClampNeg = p := nI_clamp (by omega)
    rcases part_cases p2 with ⟨pc, f9, f10⟩ | ⟨f9, f10⟩
    · have fin : ∀ x : Int32, m_X9_whatIs s9 (nI p) p2 = some (x, p9_refusals s9) → m_X10_whatIs s10 (nI p) p2 = some (x, p10_refusals s10) → ∃ u v, m_X9_whatIs s9 (nI p) p2 = some u ∧ m_X10_whatIs s10 (nI p) p2 = some v ∧ u.1 = v.1 ∧ Rel (st_X9_whatIs s9 u) (st_X10_whatIs s10 v) := fun x a b => ⟨_, _, a, b, rfl, A, hok, h6, h10, rI, rL, rT, rH, rR, rS, rB⟩
      by_cases c0 : p2 = 0
      · have a9 : lp (fun z : Int32 × Int32 => m_X9_kindsAsTold_l4 s9 (nI (hF A p)) z.1 z.2) fu ((0 : Int32), (0 : Int32)) = some (nI (bs (fun k => tld c m k (hF A p)) 6)) := by
          refine lp_for (fun k => (nI (bs (fun k => tld c m k (hF A p)) k), nI k)) 6 (fun k hk => ?_) ?_ (by decide) rfl
          · simp only [m_X9_kindsAsTold_l4]
            rw [if_neg (by rw [i_lt, nI_toInt (by omega), show (5 : Int32).toInt = 5 from rfl]; omega), tld9 hm t1 hc t3 hk (by omega), Option.bind_some, nI_1, bs_or]
            by_cases w : tld c m k (hF A p) = true
            · rw [if_pos w, if_neg (by decide), nI_shl1 _ (by omega), nI_or, if_pos w]
            · rw [if_neg w, if_pos rfl, if_neg w, Nat.or_zero]
          · simp only [m_X9_kindsAsTold_l4]
            exact if_pos (show (5 : Int32) < nI 6 by decide)
        have a10 : lp (fun z : Int32 × Int32 => m_X10_whatIs_l35 s10 (nI p) p2 z.1 z.2) fu ((0 : Int32), (0 : Int32)) = some (nI (bs (fun k => tld c m k (hF A p)) 6)) := by
          refine lp_for (fun k => (nI (bs (fun k => tld c m k (hF A p)) k), nI k)) 6 (fun k hk => ?_) ?_ (by decide) rfl
          · simp only [m_X10_whatIs_l35]
            rw [if_pos c0, Option.bind_some, if_neg (show ¬ (6 : Int32) ≤ nI k from nI_ge (b := 6) hk (by omega)), if_pos c0, if_pos ib, cl, h10.2.1.2.2.1 p hp, tld10 hm t2 hc t4 hk (by omega), Option.bind_some, nI_1, bs_or]
            by_cases w : tld c m k (hF A p) = true
            · rw [if_pos w, if_neg (by decide), nI_shl1 _ (by omega), nI_or, if_pos w]
            · rw [if_neg w, if_pos rfl, if_neg w, show (0 : Int32) = nI 0 from rfl, nI_or]
          · simp only [m_X10_whatIs_l35]
            rw [if_pos c0, Option.bind_some, if_pos (show (6 : Int32) ≤ nI 6 by decide)]
        refine fin (nI (bs (fun k => tld c m k (hF A p)) 6)) ?_ ?_
        · unfold m_X9_whatIs m_X6_figureOf m_X9_kindsAsTold
          rw [e6, Option.bind_some, if_neg (by decide), f9, Option.bind_some, if_neg (by decide), if_pos c0, get_in (by omega) (by decide), Option.bind_some, Option.bind_some, h6.2.1.2.2.1 p hp, a9, Option.bind_some, Option.bind_some]
        · unfold m_X10_whatIs
          rw [e10, Option.bind_some, if_neg (by decide), f10, Option.bind_some, if_neg (by decide), a10, Option.bind_some]
      · have a9 : lp (fun z : Int32 × Int32 => m_X9_figuresAsTold_l4 s9 (nI (hK A p)) z.1 z.2) fu ((0 : Int32), (0 : Int32)) = some (nI (bs (fun k => tld c m (hK A p) k) 10)) := by
          refine lp_for (fun k => (nI (bs (fun k => tld c m (hK A p) k) k), nI k)) 10 (fun k hk => ?_) ?_ (by decide) rfl
          · simp only [m_X9_figuresAsTold_l4]
            rw [if_neg (by rw [i_lt, nI_toInt (by omega), show (9 : Int32).toInt = 9 from rfl]; omega), tld9 hm t1 hc t3 (by omega) hk, Option.bind_some, nI_1, bs_or]
            by_cases w : tld c m (hK A p) k = true
            · rw [if_pos w, if_neg (by decide), nI_shl1 _ (by omega), nI_or, if_pos w]
            · rw [if_neg w, if_pos rfl, if_neg w, Nat.or_zero]
          · simp only [m_X9_figuresAsTold_l4]
            exact if_pos (show (9 : Int32) < nI 10 by decide)
        have a10 : lp (fun z : Int32 × Int32 => m_X10_whatIs_l35 s10 (nI p) p2 z.1 z.2) fu ((0 : Int32), (0 : Int32)) = some (nI (bs (fun k => tld c m (hK A p) k) 10)) := by
          refine lp_for (fun k => (nI (bs (fun k => tld c m (hK A p) k) k), nI k)) 10 (fun k hk => ?_) ?_ (by decide) rfl
          · simp only [m_X10_whatIs_l35]
            rw [if_neg c0, Option.bind_some, if_neg (show ¬ (10 : Int32) ≤ nI k from nI_ge (b := 10) hk (by omega)), if_neg c0, if_pos ib, cl, h10.2.1.2.1 p hp, tld10 hm t2 hc t4 (by omega) hk, Option.bind_some, nI_1, bs_or]
            by_cases w : tld c m (hK A p) k = true
            · rw [if_pos w, if_neg (by decide), nI_shl1 _ (by omega), nI_or, if_pos w]
            · rw [if_neg w, if_pos rfl, if_neg w, show (0 : Int32) = nI 0 from rfl, nI_or]
          · simp only [m_X10_whatIs_l35]
            rw [if_neg c0, Option.bind_some, if_pos (show (10 : Int32) ≤ nI 10 by decide)]
        refine fin (nI (bs (fun k => tld c m (hK A p) k) 10)) ?_ ?_
        · unfold m_X9_whatIs m_X6_kindOf m_X9_figuresAsTold
          rw [e6, Option.bind_some, if_neg (by decide), f9, Option.bind_some, if_neg (by decide), if_neg c0, get_in (by omega) (by decide), Option.bind_some, Option.bind_some, h6.2.1.2.1 p hp, a9, Option.bind_some, Option.bind_some]
        · unfold m_X10_whatIs
          rw [e10, Option.bind_some, if_neg (by decide), f10, Option.bind_some, if_neg (by decide), a10, Option.bind_some]
    · refine ⟨(-2, cnt (p9_refusals s9) 2), (-2, cnt (p10_refusals s10) 2), ?_, ?_, rfl, A, hok, h6, h10, rI, rL, rT, rH, Req_cnt rR (by decide), rS, rB⟩
      · unfold m_X9_whatIs
        rw [e6, Option.bind_some, if_neg (by decide), f9, Option.bind_some, if_pos rfl, use9 (k := 2) _ (by decide) (by decide), Option.bind_some]
      · unfold m_X10_whatIs
        rw [e10, Option.bind_some, if_neg (by decide), f10, Option.bind_some, if_pos rfl, no10 (k := 2) _ (by decide) (by decide), Option.bind_some]
  · refine ⟨(-1, cnt (p9_refusals s9) 1), (-1, cnt (p10_refusals s10) 1), ?_, ?_, rfl, A, hok, h6, h10, rI, rL, rT, rH, Req_cnt rR (by decide), rS, rB⟩
    · unfold m_X9_whatIs
      rw [e6, Option.bind_some, if_pos rfl, use9 (k := 1) _ (by decide) (by decide), Option.bind_some]
    · unfold m_X10_whatIs
      rw [e10, Option.bind_some, if_pos rfl, no10 (k := 1) _ (by decide) (by decide), Option.bind_some]
