/-! the class's order: overs, unders, wrongs -/
theorem Eqn_congr {f : Nat → Int32} {g h : Nat → Nat} {n : Nat} (e : Eqn f g n) (q : ∀ i, i < n → g i = h i) : Eqn f h n := fun i hi => by rw [e i hi, q i hi]
/-- those that a paper is under though its mark is above theirs -/
noncomputable def wrg (A : Sh) (W p : Nat) : Nat := bs (fun q => undB A W p q && decide (mkA A q < mkA A p)) (hN A)
theorem ovs_und {A : Sh} {W p q : Nat} (hq : q < hN A) : (ovs A W p).testBit q = undB A W p q := by
  unfold ovs
  rw [bs_bit, decide_eq_true hq, Bool.true_and]
theorem bls_und {A : Sh} {W p q : Nat} (hq : q < hN A) : (bls A W p).testBit q = undB A W q p := by
  unfold bls
  rw [bs_bit, decide_eq_true hq, Bool.true_and]
theorem ovs_lt (A : Sh) (W p : Nat) : ovs A W p < 2 ^ hN A := bs_lt _ _
theorem bls_lt (A : Sh) (W p : Nat) : bls A W p < 2 ^ hN A := bs_lt _ _
theorem wrg_lt (A : Sh) (W p : Nat) : wrg A W p < 2 ^ hN A := bs_lt _ _
theorem meet5 {s : T5} {A : Sh} (hok : okS A) {W p : Nat} (hp : p < hN A) (h1 : p5_papers s = nI (hN A)) (hm : Eqn (p5_marks s) (mkA A) (hN A)) (hu : Eqn (p5_unders s) (fun j => bs (fun x => undB A W x j) p) (hN A)) (hw : Eqn (p5_wrongs s) (fun j => if j < p then wrg A W j else 0) (hN A)) : ∃ u w, m_X5_meetOvers s (nI p) (nI (ovs A W p)) = some (u, w) ∧ Eqn u (fun j => bs (fun x => undB A W x j) (p + 1)) (hN A) ∧ Eqn w (fun j => if j < p + 1 then wrg A W j else 0) (hN A) := by
  have n7 := hok.1.1
  have p7 := pow_le7 n7
  have lo := ovs_lt A W p
  obtain ⟨r, e, u1, u2⟩ := lp_invf (f := fun z : Int32 × (Nat → Int32) × (Nat → Int32) => m_X5_meetOvers_l2 s (nI p) (nI (ovs A W p)) z.1 z.2.1 z.2.2) (I := fun d z => ∃ t, t ≤ hN A ∧ d = hN A - t ∧ z.1 = nI t ∧ Eqn z.2.1 (fun j => if j < t then bs (fun x => undB A W x j) (p + 1) else bs (fun x => undB A W x j) p) (hN A) ∧ Eqn z.2.2 (fun j => if j < p then wrg A W j else if j = p then bs (fun q => undB A W p q && decide (mkA A q < mkA A p)) t else 0) (hN A)) (Q := fun r => Eqn r.1 (fun j => bs (fun x => undB A W x j) (p + 1)) (hN A) ∧ Eqn r.2 (fun j => if j < p + 1 then wrg A W j else 0) (hN A)) (d := hN A) (s := ((0 : Int32), p5_unders s, p5_wrongs s)) (by
    rintro d ⟨i, fu', fw⟩ ⟨t, ht, hd, rfl, e1, e2⟩
    simp only at e1 e2 ⊢
    rcases Nat.lt_or_ge t (hN A) with q | q
    · refine Or.inl ?_
      by_cases c : undB A W p t = true
      · have q1 := mkA_le hok hp
        have q2 := mkA_le hok q
        have hmt : nI (mkA A p) ≤ nI (mkA A t) ↔ mkA A p ≤ mkA A t := by rw [i_le, nI_toInt (by omega), nI_toInt (by omega)]; omega
        have go : m_X5_meetOvers_l2 s (nI p) (nI (ovs A W p)) (nI t) fu' fw = some (.inl (nI (t + 1), upd fu' t (fu' t + nI (2 ^ p)), upd fw p (fw p + nI (if mkA A t < mkA A p then 2 ^ t else 0)))) := by
          unfold m_X5_meetOvers_l2
          rw [h1, if_neg (nI_ge q (by omega)), hasBit9 (by omega) (by omega), ovs_und q, if_pos c, Option.bind_some, if_neg (by decide), nI_shl1 _ (by omega), add_in (by omega) (by decide), Option.bind_some, get_in (by omega) (by decide), Option.bind_some, get_in (by omega) (by decide), Option.bind_some, hm p hp, hm t q, nI_1]
          by_cases c2 : mkA A t < mkA A p
          · rw [if_neg (fun x => by have := hmt.mp x; omega), Option.bind_some, nI_shl1 _ (by omega), add_in (by omega) (by decide), Option.bind_some, if_pos c2]
          · rw [if_pos (hmt.mpr (by omega)), Option.bind_some, add_in (by omega) (by decide), Option.bind_some, if_neg c2]
            rfl
        refine ⟨hN A - (t + 1), _, go, by omega, t + 1, by omega, rfl, rfl, ?_, ?_⟩
        · refine Eqn_congr (Eqn_upd e1 (k := t) (v := bs (fun x => undB A W x t) (p + 1)) ?_) (fun j hj => ?_)
          · rw [show fu' t = nI (bs (fun x => undB A W x t) p) from (e1 t q).trans (congrArg nI (if_neg (Nat.lt_irrefl t))), nI_add, bs, if_pos c]
          · by_cases w : j = t
            · rw [if_pos w, w, if_pos (by omega)]
            · rw [if_neg w]
              by_cases w2 : j < t
              · rw [if_pos w2, if_pos (by omega)]
              · rw [if_neg w2, if_neg (by omega)]
        · refine Eqn_congr (Eqn_upd e2 (k := p) (v := bs (fun q => undB A W p q && decide (mkA A q < mkA A p)) (t + 1)) ?_) (fun j hj => ?_)
          · rw [show fw p = nI (bs (fun q => undB A W p q && decide (mkA A q < mkA A p)) t) from (e2 p hp).trans (congrArg nI ((if_neg (Nat.lt_irrefl p)).trans (if_pos rfl))), nI_add, bs]
            simp only [c, Bool.true_and, decide_eq_true_eq]
          · by_cases w : j = p
            · rw [if_pos w, if_neg (by omega), if_pos w]
            · rw [if_neg w, if_neg w, if_neg w]
      · have go : m_X5_meetOvers_l2 s (nI p) (nI (ovs A W p)) (nI t) fu' fw = some (.inl (nI (t + 1), fu', fw)) := by
          unfold m_X5_meetOvers_l2
          rw [h1, if_neg (nI_ge q (by omega)), hasBit9 (by omega) (by omega), ovs_und q, if_neg c, Option.bind_some, if_pos rfl, nI_1]
        refine ⟨hN A - (t + 1), _, go, by omega, t + 1, by omega, rfl, rfl, ?_, ?_⟩
        · refine Eqn_congr e1 (fun j hj => ?_)
          by_cases w : j < t
          · rw [if_pos w, if_pos (by omega)]
          · rw [if_neg w]
            by_cases w2 : j = t
            · rw [if_pos (by omega), w2, bs, if_neg c, Nat.add_zero]
            · rw [if_neg (by omega)]
        · refine Eqn_congr e2 (fun j hj => ?_)
          by_cases w : j < p
          · rw [if_pos w, if_pos w]
          · rw [if_neg w, if_neg w]
            by_cases w2 : j = p
            · rw [if_pos w2, if_pos w2, bs, if_neg (by simp [c]), Nat.add_zero]
            · rw [if_neg w2, if_neg w2]
    · refine Or.inr ⟨(fu', fw), ?_, Eqn_congr e1 (fun j hj => if_pos (by omega)), Eqn_congr e2 (fun j hj => ?_)⟩
      · unfold m_X5_meetOvers_l2
        rw [h1, if_pos (nI_le q (by omega))]
      · by_cases w : j < p
        · rw [if_pos w, if_pos (by omega)]
        · rw [if_neg w]
          by_cases w2 : j = p
          · rw [if_pos w2, if_pos (by omega), w2, show t = hN A by omega]
            rfl
          · rw [if_neg w2, if_neg (by omega)]) ⟨0, Nat.zero_le _, rfl, rfl, Eqn_congr hu (fun j hj => (if_neg (Nat.not_lt_zero j)).symm), Eqn_congr hw (fun j hj => by
      by_cases w : j < p
      · rw [if_pos w, if_pos w]
      · rw [if_neg w, if_neg w]
        by_cases w2 : j = p
        · rw [if_pos w2]; rfl
        · rw [if_neg w2])⟩ (by omega)
  refine ⟨r.1, r.2, ?_, u1, u2⟩
  unfold m_X5_meetOvers
  rw [e, Option.bind_some]
def SO (s : T5) (A : Sh) (W : Nat) : Prop := Eqn (p5_overs s) (ovs A W) (hN A) ∧ Eqn (p5_unders s) (bls A W) (hN A) ∧ Eqn (p5_marks s) (mkA A) (hN A) ∧ Eqn (p5_wrongs s) (wrg A W) (hN A) ∧ p5_papers s = nI (hN A)
theorem order5 {s : T5} {t : T6} {A : Sh} (h : S6 t A) (hok : okS A) {W : Nat} (hW : W < 2 ^ 12) : ∃ u, m_X5_work s t (nI W) = some u ∧ SO (u5_papers u.2.2.2.2 (u5_wrongs u.2.2.2.1 (u5_marks u.2.2.1 (u5_unders u.2.1 (u5_overs u.1 s))))) A W := by
  have n7 := hok.1.1
  obtain ⟨g, g1, g2⟩ := trace6 h hok hW (p5_overs s)
  obtain ⟨r, a1, a2, a3, a4⟩ := lp_invf (f := fun z : Int32 × (Nat → Int32) × (Nat → Int32) × (Nat → Int32) => m_X5_work_l19 t (nI (hN A)) z.1 z.2.1 z.2.2.1 z.2.2.2) (I := fun d z => ∃ k, k ≤ hN A ∧ d = hN A - k ∧ z.1 = nI k ∧ Eqn z.2.1 (fun _ => 0) k ∧ Eqn z.2.2.1 (mkA A) k ∧ Eqn z.2.2.2 (fun _ => 0) k) (Q := fun r => Eqn r.1 (fun _ => 0) (hN A) ∧ Eqn r.2.1 (mkA A) (hN A) ∧ Eqn r.2.2 (fun _ => 0) (hN A)) (d := hN A) (s := ((0 : Int32), p5_unders s, p5_marks s, p5_wrongs s)) (by
    rintro d ⟨i, f1, f2, f3⟩ ⟨k, hk, hd, rfl, e1, e2, e3⟩
    simp only at e1 e2 e3 ⊢
    rcases Nat.lt_or_ge k (hN A) with q | q
    · refine Or.inl ⟨hN A - (k + 1), (nI (k + 1), upd f1 k 0, upd f2 k (nI (mkA A k)), upd f3 k 0), ?_, by omega, k + 1, by omega, rfl, rfl, Eqn_congr (Eqn_push e1 (v := 0) rfl) (fun j hj => by by_cases w : j = k <;> simp [w]), Eqn_congr (Eqn_push e2 (v := mkA A k) rfl) (fun j hj => by by_cases w : j = k <;> simp [w]), Eqn_congr (Eqn_push e3 (v := 0) rfl) (fun j hj => by by_cases w : j = k <;> simp [w])⟩
      unfold m_X5_work_l19
      rw [if_neg (nI_ge q (by omega)), markOf6 h hok q, Option.bind_some, set_in (by omega) (by decide), Option.bind_some, set_in (by omega) (by decide), Option.bind_some, set_in (by omega) (by decide), Option.bind_some, nI_1]
    · refine Or.inr ⟨(f1, f2, f3), ?_, Eqn_less e1 q, Eqn_less e2 q, Eqn_less e3 q⟩
      unfold m_X5_work_l19
      rw [if_pos (nI_le q (by omega))]) ⟨0, Nat.zero_le _, rfl, rfl, fun i hi => absurd hi (Nat.not_lt_zero i), fun i hi => absurd hi (Nat.not_lt_zero i), fun i hi => absurd hi (Nat.not_lt_zero i)⟩ (by omega)
  obtain ⟨r2, b1, b2, b3⟩ := lp_invf (f := fun z : Int32 × (Nat → Int32) × (Nat → Int32) => m_X5_work_l66 s (nI (hN A)) g r z.1 z.2.1 z.2.2) (I := fun d z => ∃ k, k ≤ hN A ∧ d = hN A - k ∧ z.1 = nI k ∧ Eqn z.2.1 (fun j => bs (fun x => undB A W x j) k) (hN A) ∧ Eqn z.2.2 (fun j => if j < k then wrg A W j else 0) (hN A)) (Q := fun r => Eqn r.1 (bls A W) (hN A) ∧ Eqn r.2 (wrg A W) (hN A)) (d := hN A) (s := ((0 : Int32), r.1, r.2.2)) (by
    rintro d ⟨i, f1, f2⟩ ⟨k, hk, hd, rfl, e1, e2⟩
    simp only at e1 e2 ⊢
    rcases Nat.lt_or_ge k (hN A) with q | q
    · obtain ⟨u, w, m1, m2, m3⟩ := meet5 (s := u5_papers (nI (hN A)) (u5_wrongs f2 (u5_marks r.2.1 (u5_unders f1 (u5_overs g s))))) (A := A) hok (W := W) q rfl a3 e1 e2
      refine Or.inl ⟨hN A - (k + 1), (nI (k + 1), u, w), ?_, by omega, k + 1, by omega, rfl, rfl, m2, m3⟩
      unfold m_X5_work_l66
      rw [if_neg (nI_ge q (by omega)), get_in (by omega) (by decide), Option.bind_some, g2 k q, m1, Option.bind_some, nI_1]
    · refine Or.inr ⟨(f1, f2), ?_, Eqn_congr e1 (fun j hj => ?_), Eqn_congr e2 (fun j hj => if_pos (by omega))⟩
      · unfold m_X5_work_l66
        rw [if_pos (nI_le q (by omega))]
      · rw [show k = hN A by omega]
        rfl) ⟨0, Nat.zero_le _, rfl, rfl, Eqn_congr a2 (fun j hj => rfl), Eqn_congr a4 (fun j hj => (if_neg (Nat.not_lt_zero j)).symm)⟩ (by omega)
  refine ⟨(g, r2.1, r.2.1, r2.2, nI (hN A)), ?_, g2, b2, a3, b3, rfl⟩
  unfold m_X5_work m_X6_paperCount
  rw [Option.bind_some, g1, Option.bind_some, h.1, a1, Option.bind_some, b1, Option.bind_some]
