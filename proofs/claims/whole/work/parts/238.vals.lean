/-! the reference by WORST; the values of all, as plain numbers -/
theorem worst_in {s : T10} {A : Sh} {W : Nat} (hok : okS A) (h : SR s A W) {p : Nat} (hp : p < hN A) (za zb : Int64) (fa fb : Nat → Int32) : lp (fun z : Int32 × Int32 × Int32 => m_X10_leastWorst_l25_2 s (nI p) za zb fa fb z.1 z.2.1 z.2.2) fu (nI (mkA A p), nI (mkA A p), (0 : Int32)) = some (nI (hiW A W p (hN A)), nI (loW A W p (hN A))) := by
  have n7 := hok.1.1
  have p7 := pow_le7 n7
  have h' := SR_v h za zb fa fb
  have b1 := bls_lt A W p
  have ib : inb (nI p) 7 = true := inb_nI (by omega) (by decide)
  have cl : (nI p).toNatClampNeg = p := nI_clamp (by omega)
  refine lp_for (fun k => (nI (hiW A W p k), nI (loW A W p k), nI k)) (hN A) (fun k hk => ?_) ?_ (by omega) rfl
  · have m1 := mkA_le hok hk
    have m2 := hiW_le hok (W := W) hp k (by omega)
    have m3 := loW_le hok (W := W) hp k (by omega)
    have b2 := bls_lt A W k
    have ib2 : inb (nI k) 7 = true := inb_nI (by omega) (by decide)
    have cl2 : (nI k).toNatClampNeg = k := nI_clamp (by omega)
    simp only [m_X10_leastWorst_l25_2]
    rw [h.1.1, if_neg (nI_ge hk (by omega)), if_pos ib, cl, h.2 p hp, has10 (by omega) (by omega), bls_und hk, Option.bind_some, cl2, h.2 k hk]
    have s1 : Option.bind (α := Int32) (if (if undB A W k p = true then (1 : Int32) else 0) = 0 then some (nI (hiW A W p k)) else ((m_X10_mark (u10_valueDown fb (u10_valueUp fa (u10_down zb (u10_up za s)))) (nI k)).bind fun x64 => (some (if nI (hiW A W p k) < x64 then x64 else nI (hiW A W p k))).bind fun x65 => some x65)) = Option.bind (some (nI (hiW A W p (k + 1)))) (β := (Int32 × Int32 × Int32) ⊕ (Int32 × Int32)) := by
      congr 1
      rw [hiW]
      by_cases c : undB A W k p = true
      · rw [if_pos c, if_neg (by decide), mark10 h'.1 hok hk, Option.bind_some, Option.bind_some, if_pos c]
        by_cases c2 : hiW A W p k < mkA A k
        · rw [if_pos c2, if_pos ((nI_lti (by omega) (by omega)).mpr c2)]
        · rw [if_neg c2, if_neg (fun x => c2 ((nI_lti (by omega) (by omega)).mp x))]
      · rw [if_neg c, if_pos rfl, if_neg c]
    rw [s1, Option.bind_some, if_pos ib2, has10 (by omega) (by omega), bls_und hp, Option.bind_some, nI_1, loW]
    by_cases c : undB A W p k = true
    · rw [if_pos c, if_neg (by decide), mark10 h'.1 hok hk, Option.bind_some, Option.bind_some, if_pos c]
      by_cases c2 : mkA A k < loW A W p k
      · rw [if_pos c2, if_pos ((nI_lti (by omega) (by omega)).mpr c2)]
      · rw [if_neg c2, if_neg (fun x => c2 ((nI_lti (by omega) (by omega)).mp x))]
    · rw [if_neg c, if_pos rfl, if_neg c]
  · simp only [m_X10_leastWorst_l25_2]
    rw [h.1.1, if_pos (nI_le (Nat.le_refl _) (by omega))]
theorem worst10 {s : T10} {A : Sh} {W : Nat} (hok : okS A) (h : SR s A W) : ∃ r, m_X10_leastWorst s = some r ∧ ∃ u d, Sp2 A W u d ∧ Eqn r.2.2.1 u (hN A) ∧ Eqn r.2.2.2 d (hN A) := by
  have n7 := hok.1.1
  have p7 := pow_le7 n7
  obtain ⟨r, e, q2, q3⟩ := lp_invf (f := fun z : Int32 × Int64 × Int64 × (Nat → Int32) × (Nat → Int32) => m_X10_leastWorst_l2 s z.1 z.2.1 z.2.2.1 z.2.2.2.1 z.2.2.2.2) (I := fun c z => ∃ k, k ≤ hN A ∧ c = hN A - k ∧ z.1 = nI k ∧ Eqn z.2.2.2.1 (fun p => both A W p / Nat.gcd (both A W p) 2) k ∧ Eqn z.2.2.2.2 (fun p => 2 / Nat.gcd (both A W p) 2) k) (Q := fun r => Eqn r.2.2.1 (fun p => both A W p / Nat.gcd (both A W p) 2) (hN A) ∧ Eqn r.2.2.2 (fun p => 2 / Nat.gcd (both A W p) 2) (hN A)) (d := hN A) (s := ((0 : Int32), p10_up s, p10_down s, p10_valueUp s, p10_valueDown s)) (by
    rintro c ⟨i, za, zb, fa, fb⟩ ⟨k, hk, hc, rfl, e1, e2⟩
    simp only at e1 e2 ⊢
    rcases Nat.lt_or_ge k (hN A) with q | q
    · have h' := SR_v h za zb fa fb
      have m2 := hiW_le hok (W := W) q (hN A) (Nat.le_refl _)
      have m3 := loW_le hok (W := W) q (hN A) (Nat.le_refl _)
      have m4 : both A W k < 1000 := by unfold both; omega
      have gt := gets10 (u10_valueDown fb (u10_valueUp fa (u10_down zb (u10_up za s)))) (show k < 7 by omega) (both A W k) (b := 2) (by omega) (by decide) (by decide)
      refine Or.inl ⟨hN A - (k + 1), (nI (k + 1), J ((both A W k / Nat.gcd (both A W k) 2 : Nat) : Int), J ((2 / Nat.gcd (both A W k) 2 : Nat) : Int), upd fa k (nI (both A W k / Nat.gcd (both A W k) 2)), upd fb k (nI (2 / Nat.gcd (both A W k) 2))), ?_, by omega, k + 1, by omega, rfl, rfl, Eqn_congr (Eqn_push e1 (v := both A W k / Nat.gcd (both A W k) 2) rfl) (fun i _ => by by_cases w : i = k <;> simp [w]), Eqn_congr (Eqn_push e2 (v := 2 / Nat.gcd (both A W k) 2) rfl) (fun i _ => by by_cases w : i = k <;> simp [w])⟩
      have gt' : m_X10_gets (u10_valueDown fb (u10_valueUp fa (u10_down zb (u10_up za s)))) (nI k) (J ((hiW A W k (hN A) + loW A W k (hN A) : Nat) : Int)) 2 = _ := gt
      unfold m_X10_leastWorst_l2
      rw [h.1.1, if_neg (nI_ge q (by omega)), mark10 h'.1 hok q, Option.bind_some, Option.bind_some, worst_in hok h q, Option.bind_some, nI_add, nI_64 (by omega), gt', Option.bind_some, nI_1]
    · refine Or.inr ⟨(za, zb, fa, fb), ?_, Eqn_less e1 q, Eqn_less e2 q⟩
      unfold m_X10_leastWorst_l2
      rw [h.1.1, if_pos (nI_le q (by omega))]) ⟨0, Nat.zero_le _, rfl, rfl, fun i hi => absurd hi (Nat.not_lt_zero i), fun i hi => absurd hi (Nat.not_lt_zero i)⟩ (by omega)
  refine ⟨(r.1, r.2.1, r.2.2.1, r.2.2.2), ?_, _, _, fun p hp => ⟨rfl, rfl⟩, q2, q3⟩
  unfold m_X10_leastWorst
  rw [e, Option.bind_some]
def VAL (A : Sh) (l W : Nat) (u d : Nat → Nat) : Prop := Spec A l W u d ∧ (l = 0 → Lv A u d)
def V10 (s : T10) (A : Sh) (u d : Nat → Nat) : Prop := S10 s A ∧ Eqn (p10_valueUp s) u (hN A) ∧ Eqn (p10_valueDown s) d (hN A)
theorem vals10 {s : T10} {A : Sh} (h : S10 s A) (hok : okS A) {l T W : Nat} (hl : l < 3) (hT : T < 2 ^ 12) (hTW : ∀ r, r < hU A → T.testBit r = !W.testBit r) : ∃ r, m_X10_values s (nI l) (nI T) = some r ∧ ∃ u d, VAL A l W u d ∧ V10 (u10_valueDown r.2.2.2.2 (u10_valueUp r.2.2.2.1 (u10_beneath r.2.2.1 (u10_down r.2.1 (u10_up r.1 s))))) A u d := by
  obtain ⟨g, g1, g2⟩ := reach10 h hok hT hTW
  have hr : SR (u10_beneath g s) A W := ⟨S10_beneath h g, g2⟩
  have fin : ∀ (a b : Int64) (f k : Nat → Int32), S10 (u10_valueDown k (u10_valueUp f (u10_beneath g (u10_down b (u10_up a s))))) A := fun a b f k => S10_mk h (by dsimp only [c10])
  unfold m_X10_values
  rw [g1, Option.bind_some]
  match l, hl with
  | 0, _ =>
    obtain ⟨r, r1, u, d, r2, r3, r4, r5⟩ := squares10 hok hr
    rw [if_pos (show nI 0 = 0 from rfl), r1, Option.bind_some]
    exact ⟨_, rfl, u, d, ⟨Or.inl ⟨rfl, r2⟩, fun _ => r3⟩, fin _ _ _ _, r4, r5⟩
  | 1, _ =>
    obtain ⟨r, r1, u, r2, r3, r4⟩ := sums10 hok hr
    rw [if_neg (show ¬ nI 1 = 0 by decide), if_pos (show nI 1 = 1 from rfl), r1, Option.bind_some]
    exact ⟨_, rfl, u, fun _ => 1, ⟨Or.inr (Or.inl ⟨rfl, r2, fun p hp => rfl⟩), fun h => by cases h⟩, fin _ _ _ _, r3, r4⟩
  | 2, _ =>
    obtain ⟨r, r1, u, d, r2, r3, r4⟩ := worst10 hok hr
    rw [if_neg (show ¬ nI 2 = 0 by decide), if_neg (show ¬ nI 2 = 1 by decide), r1, Option.bind_some]
    exact ⟨_, rfl, u, d, ⟨Or.inr (Or.inr ⟨rfl, r2⟩), fun h => by cases h⟩, fin _ _ _ _, r3, r4⟩
/-- a reference with a sheet -/
def mk10 (A : Sh) : T10 := (nI (hN A), fun i => nI (hR A i), fun i => nI (hK A i), fun i => nI (hF A i), fun i => nI (hH A i), fun i => nI (hP A i), nI (hU A), fun i => nI (hL A i), fun i => nI (hO A i), nI (hB A), fun i => nI (hM A i), nI (hT A), s10_init.2.2.2.2.2.2.2.2.2.2.2.2)
theorem mk10_S (A : Sh) : S10 (mk10 A) A := ⟨rfl, ⟨fun _ _ => rfl, fun _ _ => rfl, fun _ _ => rfl, fun _ _ => rfl, fun _ _ => rfl⟩, ⟨rfl, fun _ _ => rfl, fun _ _ => rfl⟩, ⟨rfl, fun _ _ => rfl⟩, rfl⟩
/-- the rules that are there, but those of W -/
theorem there_bits {A : Sh} (hok : okS A) (W : Nat) : dif (2 ^ hU A - 1) W < 2 ^ 12 ∧ ∀ r, r < hU A → (dif (2 ^ hU A - 1) W).testBit r = !W.testBit r := by
  have := rules_lt hok
  have h2 := dif_le (2 ^ hU A - 1) W
  have h3 := Nat.two_pow_pos (hU A)
  refine ⟨by omega, fun r hr => ?_⟩
  rw [dif_bit, all_bit hr, Bool.true_and]
theorem val_ex {A : Sh} (hok : okS A) {l : Nat} (hl : l < 3) (W : Nat) : ∃ q : (Nat → Nat) × (Nat → Nat), VAL A l W q.1 q.2 := by
  obtain ⟨h1, h2⟩ := there_bits hok W
  obtain ⟨r, r1, u, d, r2, r3⟩ := vals10 (mk10_S A) hok hl h1 h2
  exact ⟨(u, d), r2⟩
noncomputable def vQ (A : Sh) (l W : Nat) : (Nat → Nat) × (Nat → Nat) := @dite _ (∃ q : (Nat → Nat) × (Nat → Nat), VAL A l W q.1 q.2) (Classical.propDecidable _) (fun h => Classical.choose h) (fun _ => (fun _ => 0, fun _ => 1))
noncomputable def vU (A : Sh) (l W : Nat) : Nat → Nat := (vQ A l W).1
noncomputable def vD (A : Sh) (l W : Nat) : Nat → Nat := (vQ A l W).2
theorem vQ_val {A : Sh} (hok : okS A) {l : Nat} (hl : l < 3) (W : Nat) : VAL A l W (vU A l W) (vD A l W) := by
  have h := val_ex hok hl W
  have e : vQ A l W = Classical.choose h := @dif_pos _ (Classical.propDecidable _) h _ _ _
  unfold vU vD
  rw [e]
  exact Classical.choose_spec h
theorem values10 {s : T10} {A : Sh} (h : S10 s A) (hok : okS A) {l T W : Nat} (hl : l < 3) (hT : T < 2 ^ 12) (hTW : ∀ r, r < hU A → T.testBit r = !W.testBit r) : ∃ r, m_X10_values s (nI l) (nI T) = some r ∧ V10 (u10_valueDown r.2.2.2.2 (u10_valueUp r.2.2.2.1 (u10_beneath r.2.2.1 (u10_down r.2.1 (u10_up r.1 s))))) A (vU A l W) (vD A l W) := by
  obtain ⟨r, r1, u, d, r2, r3, r4, r5⟩ := vals10 h hok hl hT hTW
  have e := Spec_eq r2.1 (vQ_val hok hl W).1
  exact ⟨r, r1, r3, Eqn_congr r4 (fun i hi => (e i hi).1), Eqn_congr r5 (fun i hi => (e i hi).2)⟩
def V9 (s : T8) (A : Sh) (u d : Nat → Nat) : Prop := SV8 s A ∧ Eqn (p8_aboves s) u (hN A) ∧ Eqn (p8_belows s) d (hN A)
theorem values9 (s : T0) {t : T6} {A : Sh} (h6 : S6 t A) (hok : okS A) (z : p0_sums s 0 = 0 ∧ p0_weighs s 0 = 0 ∧ p0_downs s 0 = 0) {l W : Nat} (hl : l < 3) (hW : W < 2 ^ 12) : ∃ r, m_X0_work s t (nI l) (nI W) = some r ∧ V9 (u8_papers r.2.2.2.2.2.2.2.1 (u8_reduced (u1_below r.2.2.2.2.2.2.1 (u1_above r.2.2.2.2.2.1 (p8_reduced (p0_values s)))) (u8_belows r.2.2.2.2.1 (u8_aboves r.2.2.2.1 (u8_places r.2.2.1 (u8_weights r.2.1 (u8_marks r.1 (p0_values s)))))))) A (vU A l W) (vD A l W) ∧ (r.2.2.2.2.2.2.2.2.2.2.2.2.2.1 0 = 0 ∧ r.2.2.2.2.2.2.2.2.2.2.2.2.2.2.1 0 = 0 ∧ r.2.2.2.2.2.2.2.2.2.2.2.2.2.2.2 0 = 0) := by
  obtain ⟨r, r1, ⟨r2, u, d, r3, r4, r5⟩, r6⟩ := work9 s h6 hok z.1 z.2.1 z.2.2 hl hW
  have e := Spec_eq r3 (vQ_val hok hl W).1
  exact ⟨r, r1, ⟨r2, Eqn_congr r4 (fun i hi => (e i hi).1), Eqn_congr r5 (fun i hi => (e i hi).2)⟩, r6⟩
theorem lev_bit {A : Sh} {u d : Nat → Nat} {p q : Nat} : (lev A u d p).testBit q = true ↔ q < hN A ∧ u q = u p ∧ d q = d p := by
  unfold lev
  rw [bs_bit, Bool.and_eq_true, decide_eq_true_iff, decide_eq_true_iff]
theorem val_bd {A : Sh} (hok : okS A) {l W : Nat} (hl : l < 3) {p : Nat} (hp : p < hN A) : 1 ≤ vD A l W p ∧ vD A l W p ≤ 126 ∧ vU A l W p ≤ 118 * vD A l W p ∧ Nat.Coprime (vU A l W p) (vD A l W p) := by
  have v := vQ_val hok hl W
  generalize vU A l W = u at *
  generalize vD A l W = d at *
  match l, hl with
  | 0, _ =>
    have lv := v.2 rfl p hp
    have sp : Sp0 A W u d := by
      rcases v.1 with ⟨_, h⟩ | ⟨h, _⟩ | ⟨h, _⟩
      · exact h
      · cases h
      · cases h
    obtain ⟨d1, d2⟩ := sp.1 p hp
    have w0 : 0 < wtS A (lev A u d p) := wtS_pos hok hp (lev_bit.mpr ⟨hp, rfl, rfl⟩)
    have w1 := wtS_le hok (lev A u d p)
    have w2 := suS_le hok (lev A u d p)
    have dv : d p ∣ wtS A (lev A u d p) := d2.symm.dvd_of_dvd_mul_left ⟨suS A (lev A u d p), by rw [lv, Nat.mul_comm]⟩
    have dl := Nat.le_of_dvd w0 dv
    refine ⟨d1, by omega, ?_, d2⟩
    refine Nat.le_of_mul_le_mul_right (c := wtS A (lev A u d p)) ?_ w0
    rw [lv]
    have := Nat.mul_le_mul_right (d p) w2
    rw [Nat.mul_right_comm] at this
    exact this
  | 1, _ =>
    rcases v.1 with ⟨h, _⟩ | ⟨_, h, h2⟩ | ⟨h, _⟩
    · cases h
    · have := h.1 p hp
      rw [h2 p hp]
      exact ⟨Nat.le_refl 1, by decide, by omega, Nat.coprime_one_right _⟩
    · cases h
  | 2, _ =>
    rcases v.1 with ⟨h, _⟩ | ⟨h, _⟩ | ⟨_, h⟩
    · cases h
    · cases h
    · obtain ⟨h1, h2⟩ := h p hp
      obtain ⟨o1, o2, o3, o4, o5⟩ := red_nat (both A W p) (b := 2) (by decide)
      have m2 := hiW_le hok (W := W) hp (hN A) (Nat.le_refl _)
      have m3 := loW_le hok (W := W) hp (hN A) (Nat.le_refl _)
      have m4 : both A W p ≤ 236 := by unfold both; omega
      rw [h1, h2]
      have le := Nat.div_le_self 2 (Nat.gcd (both A W p) 2)
      refine ⟨o3, by omega, ?_, o4⟩
      have := Nat.mul_le_mul_right (2 / Nat.gcd (both A W p) 2) m4
      omega
