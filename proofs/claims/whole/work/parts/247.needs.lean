/-! needs: the class seeks by halves, the reference one by one -/
abbrev T12 : Type := (Nat → Int32) × (Nat → Int32) × (Nat → Int32) × (Nat → Int32) × (Nat → Int32) × Int32 × (Nat → Int32) × (Nat → Int32) × Int32 × (Nat → Int32) × Int32 × Int32
abbrev cp6 (x1 : T12) (f : Nat → Int32) (s : T6) : T6 := u6_tieWay x1.2.2.2.2.2.2.2.2.2.2.2 (u6_boundCount x1.2.2.2.2.2.2.2.2.2.2.1 (u6_bounds x1.2.2.2.2.2.2.2.2.2.1 (u6_rules x1.2.2.2.2.2.2.2.2.1 (u6_uppers x1.2.2.2.2.2.2.2.1 (u6_lowers x1.2.2.2.2.2.2.1 (u6_papers x1.2.2.2.2.2.1 (u6_places x1.2.2.2.2.1 (u6_heavies x1.2.2.2.1 (u6_figures x1.2.2.1 (u6_kinds x1.2.1 (u6_raws f s)))))))))))
theorem cp6_raw {x1 : T12} {s : T6} {A : Sh} (h : S6 (cp6 x1 x1.1 s) A) {p v : Nat} {f : Nat → Int32} (hf : Eqn f (setF (hR A) p v) (hN A)) : S6 (cp6 x1 f s) (aRaw A p v) := by
  have h1 : x1.2.2.2.2.2.1 = nI (hN A) := h.1
  have h2 : Eqn x1.2.1 (hK A) (hN A) := h.2.1.2.1
  have h3 : Eqn x1.2.2.1 (hF A) (hN A) := h.2.1.2.2.1
  have h4 : Eqn x1.2.2.2.1 (hH A) (hN A) := h.2.1.2.2.2.1
  have h5 : Eqn x1.2.2.2.2.1 (hP A) (hN A) := h.2.1.2.2.2.2
  have h6 : x1.2.2.2.2.2.2.2.2.1 = nI (hU A) := h.2.2.1.1
  have h7 : Eqn x1.2.2.2.2.2.2.1 (hL A) (hU A) := h.2.2.1.2.1
  have h8 : Eqn x1.2.2.2.2.2.2.2.1 (hO A) (hU A) := h.2.2.1.2.2
  have h9 : x1.2.2.2.2.2.2.2.2.2.2.1 = nI (hB A) := h.2.2.2.1.1
  have h10 : Eqn x1.2.2.2.2.2.2.2.2.2.1 (hM A) (hB A) := h.2.2.2.1.2
  have h11 : x1.2.2.2.2.2.2.2.2.2.2.2 = nI (hT A) := h.2.2.2.2
  exact ⟨h1, ⟨hf, h2, h3, h4, h5⟩, ⟨h6, h7, h8⟩, ⟨h9, h10⟩, h11⟩
theorem cp6_n {x1 : T12} {s : T6} {A : Sh} (h : S6 (cp6 x1 x1.1 s) A) (f : Nat → Int32) : p6_papers (cp6 x1 f s) = nI (hN A) := by
  have h1 : x1.2.2.2.2.2.1 = nI (hN A) := h.1
  exact h1
theorem setRaw6 {s : T6} {n p v : Nat} (hn : n ≤ 7) (h : p6_papers s = nI n) (hp : p < n) (hv : v ≤ 99) : m_X6_setRaw s (nI p) (nI v) = some (p6_raws s p, upd (p6_raws s) p (nI v)) := by
  have hp1 : m_X6_hasPaper s (nI p) = some 1 := by
    unfold m_X6_hasPaper
    rw [if_neg (nI_pos (by omega)), h, if_neg (nI_ge hp (by omega))]
  unfold m_X6_setRaw m_X6_swap_0_0_1
  rw [hp1, Option.bind_some, if_neg (by decide), if_pos (nI_pos' (by omega)), if_pos (show nI v ≤ (99 : Int32) by rw [i_le, nI_toInt (by omega), show (99 : Int32).toInt = 99 from rfl]; omega), get_in (by omega) (by decide), Option.bind_some, set_in (by omega) (by decide), Option.bind_some, Option.bind_some]
theorem half_e : ∀ e, e < 8 → 0 < e → nI (2 ^ e / 2) / 2 = nI (2 ^ (e - 1) / 2) ∧ ¬ nI (2 ^ e / 2) ≤ 0 ∧ 1 ≤ 2 ^ e / 2 := by decide +kernel
theorem needs9 {s9 : T9} {A : Sh} (hok : okS A) {x1 : T12} (hx : S6 (cp6 x1 x1.1 (p9_spare s9)) A) (rB : RelB s9) {l p g N : Nat} (hl : l < 3) (hp : p < hN A) (hg : g ≤ 5) (hNN : N ≤ 100) (cu : ∀ v, v < 100 → (gr A l p v < g ↔ v < N)) : ∃ (f : Nat → Int32) (r : T16), lp (fun z : Int32 × Int32 × (Nat → Int32) × (Nat → Int32) × (Nat → Int32) × (Nat → Int32) × (Nat → Int32) × (Nat → Int32) × Int64 × Int64 × Int32 × (Nat → Int32) × (Nat → Int32) × (Nat → Int32) × (Nat → Int32) × Int32 × (Nat → Int32) × (Nat → Int32) × (Nat → Int32) => m_X9_leastRaw_l18 s9 (nI l) (nI p) (nI g) x1 z.1 z.2.1 z.2.2.1 z.2.2.2.1 z.2.2.2.2.1 z.2.2.2.2.2.1 z.2.2.2.2.2.2.1 z.2.2.2.2.2.2.2.1 z.2.2.2.2.2.2.2.2.1 z.2.2.2.2.2.2.2.2.2.1 z.2.2.2.2.2.2.2.2.2.2.1 z.2.2.2.2.2.2.2.2.2.2.2.1 z.2.2.2.2.2.2.2.2.2.2.2.2.1 z.2.2.2.2.2.2.2.2.2.2.2.2.2.1 z.2.2.2.2.2.2.2.2.2.2.2.2.2.2.1 z.2.2.2.2.2.2.2.2.2.2.2.2.2.2.2.1 z.2.2.2.2.2.2.2.2.2.2.2.2.2.2.2.2.1 z.2.2.2.2.2.2.2.2.2.2.2.2.2.2.2.2.2.1 z.2.2.2.2.2.2.2.2.2.2.2.2.2.2.2.2.2.2) fu ((0 : Int32), (64 : Int32), x1.1, cur0 (p9_byRules s9)) = some (nI N, f, r) ∧ zero3 r := by
  have n7 := hok.1.1
  obtain ⟨⟨a, f, r⟩, e, q1, q2⟩ := lp_invf (f := fun z : Int32 × Int32 × (Nat → Int32) × (Nat → Int32) × (Nat → Int32) × (Nat → Int32) × (Nat → Int32) × (Nat → Int32) × Int64 × Int64 × Int32 × (Nat → Int32) × (Nat → Int32) × (Nat → Int32) × (Nat → Int32) × Int32 × (Nat → Int32) × (Nat → Int32) × (Nat → Int32) => m_X9_leastRaw_l18 s9 (nI l) (nI p) (nI g) x1 z.1 z.2.1 z.2.2.1 z.2.2.2.1 z.2.2.2.2.1 z.2.2.2.2.2.1 z.2.2.2.2.2.2.1 z.2.2.2.2.2.2.2.1 z.2.2.2.2.2.2.2.2.1 z.2.2.2.2.2.2.2.2.2.1 z.2.2.2.2.2.2.2.2.2.2.1 z.2.2.2.2.2.2.2.2.2.2.2.1 z.2.2.2.2.2.2.2.2.2.2.2.2.1 z.2.2.2.2.2.2.2.2.2.2.2.2.2.1 z.2.2.2.2.2.2.2.2.2.2.2.2.2.2.1 z.2.2.2.2.2.2.2.2.2.2.2.2.2.2.2.1 z.2.2.2.2.2.2.2.2.2.2.2.2.2.2.2.2.1 z.2.2.2.2.2.2.2.2.2.2.2.2.2.2.2.2.2.1 z.2.2.2.2.2.2.2.2.2.2.2.2.2.2.2.2.2.2) (I := fun d z => ∃ lo f r, d ≤ 7 ∧ lo ≤ N ∧ N < lo + 2 ^ d ∧ z = (nI lo, nI (2 ^ d / 2), f, r) ∧ (∀ i, i < hN A → i ≠ p → f i = nI (hR A i)) ∧ zero3 r) (Q := fun y => y.1 = nI N ∧ zero3 y.2.2) (d := 7) (s := ((0 : Int32), (64 : Int32), x1.1, cur0 (p9_byRules s9))) (by
    rintro d z ⟨lo, f, r, hd, h1, h2, rfl, hf, z3⟩
    rcases Nat.eq_zero_or_pos d with q | q
    · rw [q] at h2 ⊢
      refine Or.inr ⟨(nI lo, f, r), ?_, by rw [show lo = N by omega], z3⟩
      show m_X9_leastRaw_l18 s9 (nI l) (nI p) (nI g) x1 (nI lo) (nI (2 ^ 0 / 2)) f r.1 r.2.1 r.2.2.1 r.2.2.2.1 r.2.2.2.2.1 r.2.2.2.2.2.1 r.2.2.2.2.2.2.1 r.2.2.2.2.2.2.2.1 r.2.2.2.2.2.2.2.2.1 r.2.2.2.2.2.2.2.2.2.1 r.2.2.2.2.2.2.2.2.2.2.1 r.2.2.2.2.2.2.2.2.2.2.2.1 r.2.2.2.2.2.2.2.2.2.2.2.2.1 r.2.2.2.2.2.2.2.2.2.2.2.2.2.1 r.2.2.2.2.2.2.2.2.2.2.2.2.2.2.1 r.2.2.2.2.2.2.2.2.2.2.2.2.2.2.2 = _
      unfold m_X9_leastRaw_l18
      rw [if_pos (show nI (2 ^ 0 / 2) ≤ 0 by decide)]
    · obtain ⟨e1, e2, e3⟩ := half_e d (by omega) q
      have pw : 2 ^ d = 2 ^ d / 2 + 2 ^ d / 2 := by
        obtain ⟨k, rfl⟩ : ∃ k, d = k + 1 := ⟨d - 1, by omega⟩
        rw [Nat.pow_succ, Nat.mul_div_cancel _ (by decide)]
        omega
      have pw2 : 2 ^ (d - 1) = 2 ^ d / 2 := by
        obtain ⟨k, rfl⟩ : ∃ k, d = k + 1 := ⟨d - 1, by omega⟩
        rw [Nat.pow_succ, Nat.mul_div_cancel _ (by decide), Nat.add_sub_cancel]
      have pb : 2 ^ d ≤ 128 := pow_le7 hd
      have tr : (nI lo + nI (2 ^ d / 2)) - 1 = nI (lo + 2 ^ d / 2 - 1) := by rw [nI_add, nI_pred_of (by omega)]
      refine Or.inl ?_
      by_cases c : 99 < lo + 2 ^ d / 2 - 1
      · refine ⟨d - 1, (nI lo, nI (2 ^ (d - 1) / 2), f, r), ?_, by omega, lo, f, r, by omega, h1, by omega, rfl, hf, z3⟩
        show m_X9_leastRaw_l18 s9 (nI l) (nI p) (nI g) x1 (nI lo) (nI (2 ^ d / 2)) f r.1 r.2.1 r.2.2.1 r.2.2.2.1 r.2.2.2.2.1 r.2.2.2.2.2.1 r.2.2.2.2.2.2.1 r.2.2.2.2.2.2.2.1 r.2.2.2.2.2.2.2.2.1 r.2.2.2.2.2.2.2.2.2.1 r.2.2.2.2.2.2.2.2.2.2.1 r.2.2.2.2.2.2.2.2.2.2.2.1 r.2.2.2.2.2.2.2.2.2.2.2.2.1 r.2.2.2.2.2.2.2.2.2.2.2.2.2.1 r.2.2.2.2.2.2.2.2.2.2.2.2.2.2.1 r.2.2.2.2.2.2.2.2.2.2.2.2.2.2.2 = _
        unfold m_X9_leastRaw_l18
        rw [if_neg e2, tr, if_pos (show (99 : Int32) < nI (lo + 2 ^ d / 2 - 1) by rw [i_lt, nI_toInt (by omega), show (99 : Int32).toInt = 99 from rfl]; omega), e1]
      · have ok1 : okS (aRaw A p (lo + 2 ^ d / 2 - 1)) := okRaw hok (by omega)
        have hs := setRaw6 (s := cp6 x1 f (p9_spare s9)) n7 (cp6_n hx f) hp (v := lo + 2 ^ d / 2 - 1) (by omega)
        have hf' : Eqn (upd f p (nI (lo + 2 ^ d / 2 - 1))) (setF (hR A) p (lo + 2 ^ d / 2 - 1)) (hN A) := fun i hi => by
          by_cases w : i = p
          · rw [w, upd_at, setF_at]
          · rw [upd_ne w, setF_ne w]
            exact hf i hi w
        have h6 := cp6_raw hx hf'
        obtain ⟨r', a1, a2, a3⟩ := values9 (stB (p9_byRules s9) r) h6 ok1 z3 hl (W := 0) (by decide)
        have a2' : V9 (stV (p9_byRules s9) r') (aRaw A p (lo + 2 ^ d / 2 - 1)) (vU (aRaw A p (lo + 2 ^ d / 2 - 1)) l 0) (vD (aRaw A p (lo + 2 ^ d / 2 - 1)) l 0) := by
          have b2 : V9 (stV (stB (p9_byRules s9) r) r') (aRaw A p (lo + 2 ^ d / 2 - 1)) (vU (aRaw A p (lo + 2 ^ d / 2 - 1)) l 0) (vD (aRaw A p (lo + 2 ^ d / 2 - 1)) l 0) := a2
          rw [stV_fl] at b2
          rw [stV_fl]
          exact b2
        have a1' : m_X0_work (stB (p9_byRules s9) r) (cp6 x1 (upd f p (nI (lo + 2 ^ d / 2 - 1))) (p9_spare s9)) (nI l) 0 = some r' := a1
        have gi : m_X8_gradeIn (stV (p9_byRules s9) r') (cp6 x1 (upd f p (nI (lo + 2 ^ d / 2 - 1))) (p9_spare s9)) (nI p) = some (nI (gr A l p (lo + 2 ^ d / 2 - 1))) := gradeIn8 ok1 a2' h6 hp
        have gb : gr A l p (lo + 2 ^ d / 2 - 1) ≤ 5 := by
          have := grd_le (aRaw A p (lo + 2 ^ d / 2 - 1)) (nI (vU (aRaw A p (lo + 2 ^ d / 2 - 1)) l 0 p)).toInt64 (nI (vD (aRaw A p (lo + 2 ^ d / 2 - 1)) l 0 p)).toInt64 (hB A)
          have := hok.2.2.1.1
          unfold gr
          omega
        have cc := cu (lo + 2 ^ d / 2 - 1) (by omega)
        have hf2 : ∀ i, i < hN A → i ≠ p → upd f p (nI (lo + 2 ^ d / 2 - 1)) i = nI (hR A i) := fun i hi w => by rw [upd_ne w]; exact hf i hi w
        have go : m_X9_leastRaw_l18 s9 (nI l) (nI p) (nI g) x1 (nI lo) (nI (2 ^ d / 2)) f r.1 r.2.1 r.2.2.1 r.2.2.2.1 r.2.2.2.2.1 r.2.2.2.2.2.1 r.2.2.2.2.2.2.1 r.2.2.2.2.2.2.2.1 r.2.2.2.2.2.2.2.2.1 r.2.2.2.2.2.2.2.2.2.1 r.2.2.2.2.2.2.2.2.2.2.1 r.2.2.2.2.2.2.2.2.2.2.2.1 r.2.2.2.2.2.2.2.2.2.2.2.2.1 r.2.2.2.2.2.2.2.2.2.2.2.2.2.1 r.2.2.2.2.2.2.2.2.2.2.2.2.2.2.1 r.2.2.2.2.2.2.2.2.2.2.2.2.2.2.2 = if g ≤ gr A l p (lo + 2 ^ d / 2 - 1) then some (.inl (nI lo, nI (2 ^ (d - 1) / 2), upd f p (nI (lo + 2 ^ d / 2 - 1)), r')) else some (.inl (nI (lo + 2 ^ d / 2), nI (2 ^ (d - 1) / 2), upd f p (nI (lo + 2 ^ d / 2 - 1)), r')) := by
          unfold m_X9_leastRaw_l18
          rw [if_neg e2, tr, if_neg (show ¬ (99 : Int32) < nI (lo + 2 ^ d / 2 - 1) by rw [i_lt, nI_toInt (by omega), show (99 : Int32).toInt = 99 from rfl]; omega), hs, Option.bind_some, a1', Option.bind_some, gi, Option.bind_some, e1, nI_add]
          by_cases w : g ≤ gr A l p (lo + 2 ^ d / 2 - 1)
          · rw [if_pos w, if_pos ((nI_lei (by omega) (by omega)).mpr w)]
          · rw [if_neg w, if_neg (fun y => w ((nI_lei (by omega) (by omega)).mp y))]
        by_cases w : g ≤ gr A l p (lo + 2 ^ d / 2 - 1)
        · rw [if_pos w] at go
          refine ⟨d - 1, _, go, by omega, lo, _, r', by omega, h1, ?_, rfl, hf2, a3⟩
          have : ¬ lo + 2 ^ d / 2 - 1 < N := fun y => by have := cc.mpr y; omega
          omega
        · rw [if_neg w] at go
          refine ⟨d - 1, _, go, by omega, lo + 2 ^ d / 2, _, r', by omega, ?_, by omega, rfl, hf2, a3⟩
          have := cc.mp (by omega)
          omega) ⟨0, x1.1, cur0 (p9_byRules s9), Nat.le_refl 7, Nat.zero_le _, by omega, rfl, fun i hi _ => by
            have h2 : Eqn x1.1 (hR A) (hN A) := hx.2.1.1
            exact h2 i hi, rB⟩ (by omega)
  have q1 : a = nI N := q1
  rw [q1] at e
  exact ⟨f, r, e, q2⟩
