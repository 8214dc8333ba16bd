/-! the class by RULES, all in one -/
def Spec (A : Sh) (loss W : Nat) (u d : Nat → Nat) : Prop := (loss = 0 ∧ Sp0 A W u d) ∨ (loss = 1 ∧ Sp1 A W u ∧ ∀ p, p < hN A → d p = 1) ∨ (loss = 2 ∧ Sp2 A W u d)
theorem Spec_eq {A : Sh} {loss W : Nat} {u d u' d' : Nat → Nat} (h : Spec A loss W u d) (k : Spec A loss W u' d') : ∀ p, p < hN A → u p = u' p ∧ d p = d' p := by
  intro p hp
  rcases h with ⟨rfl, h⟩ | ⟨rfl, h, hd⟩ | ⟨rfl, h⟩
  · rcases k with ⟨_, k⟩ | ⟨k, _⟩ | ⟨k, _⟩
    · exact Sp0_eq h k p hp
    · cases k
    · cases k
  · rcases k with ⟨k, _⟩ | ⟨_, k, kd⟩ | ⟨k, _⟩
    · cases k
    · exact ⟨Sp1_eq h k p hp, by rw [hd p hp, kd p hp]⟩
    · cases k
  · rcases k with ⟨k, _⟩ | ⟨k, _⟩ | ⟨_, k⟩
    · cases k
    · cases k
    · rw [(h p hp).1, (h p hp).2, (k p hp).1, (k p hp).2]
      exact ⟨rfl, rfl⟩
theorem isT_sign {A : Sh} {W T : Nat} {f : Nat → Int} (h1 : sub T (allS A)) (h2 : low A W T (allS A)) (h3 : ∀ p, p < hN A → T.testBit p = true → f p ≤ 0) (h4 : ∀ p, p < hN A → ¬ T.testBit p = true → 0 < f p) : isT A W (allS A) f T := by
  have pos : ∀ S i, i < hN A → (dif S T).testBit i = true → 0 ≤ f i := fun S i hi h => Int.le_of_lt (h4 i hi (dif_bitp.mp h).2)
  have key : ∀ S, sI f T (hN A) + sI f (dif S T) (hN A) ≤ sI f S (hN A) := by
    intro S
    have e1 := sI_dif f S T (hN A)
    have e2 := sI_dif f T S (hN A)
    rw [Nat.and_comm] at e2
    have e3 := sI_nonpos (f := f) (S := dif T S) (n := hN A) (fun i hi h => h3 i hi (dif_bitp.mp h).1)
    omega
  refine ⟨h1, h2, fun S _ _ => ?_, fun S s1 _ e i hi => Classical.byContradiction fun c => ?_⟩
  · have := sI_nonneg (f := f) (S := dif S T) (n := hN A) (fun i hi h => pos S i hi h)
    have := key S
    omega
  · have hn := allS_bit.mp (s1 i hi)
    have := sI_pos (f := f) (S := dif S T) (n := hN A) (i := i) (fun i hi h => pos S i hi h) hn (dif_bitp.mpr ⟨hi, c⟩) (h4 i hn c)
    have := key S
    omega
theorem und_mark {A : Sh} {W p q : Nat} (h : ∀ r, r < hU A → W.testBit r = false → mkA A (hL A r) ≤ mkA A (hO A r)) (u : Und A W p q) : mkA A p ≤ mkA A q := by
  refine u (fun x y => mkA A x ≤ mkA A y) ?_ (fun x y z a b => Nat.le_trans a b)
  rintro x y ⟨r, r1, r2, rfl, rfl⟩
  exact h r r1 r2
/-- where the marks break no rule, the values are the marks -/
theorem Spec_marks {A : Sh} (hok : okS A) {loss W : Nat} (hl : loss < 3) (h : ∀ r, r < hU A → W.testBit r = false → mkA A (hL A r) ≤ mkA A (hO A r)) : Spec A loss W (mkA A) (fun _ => 1) := by
  have um : ∀ {p q}, Und A W p q → mkA A p ≤ mkA A q := fun u => und_mark h u
  match loss, hl with
  | 0, _ =>
    refine Or.inl ⟨rfl, fun p hp => ⟨Nat.le_refl 1, Nat.coprime_one_right _⟩, fun c b hb => isT_sign (sub_all (bs_lt _ _)) ?_ ?_ ?_⟩
    · intro p q hp hu hq
      rw [bs_bit, Bool.and_eq_true, decide_eq_true_iff, decide_eq_true_iff] at hp ⊢
      have := Nat.mul_le_mul_right b (um hu)
      exact ⟨allS_bit.mp hq, Nat.le_trans this hp.2⟩
    · intro p hp ht
      rw [bs_bit, Bool.and_eq_true, decide_eq_true_iff, decide_eq_true_iff] at ht
      have k := Nat.mul_le_mul_right (wtA A p) ht.2
      have k2 : ((mkA A p * b * wtA A p : Nat) : Int) ≤ ((c * 1 * wtA A p : Nat) : Int) := Int.ofNat_le.mpr k
      rw [Nat.mul_one, Nat.mul_right_comm, Nat.mul_comm _ b, Int.natCast_mul, Int.natCast_mul c] at k2
      unfold FF
      rw [Int.neg_mul]
      omega
    · intro p hp ht
      rw [bs_bit, Bool.and_eq_true, decide_eq_true_iff, decide_eq_true_iff] at ht
      have k : c * 1 < mkA A p * b := by
        rcases Nat.lt_or_ge (c * 1) (mkA A p * b) with w | w
        · exact w
        · exact absurd ⟨hp, w⟩ ht
      have k1 := Nat.mul_lt_mul_of_pos_right k (show 0 < wtA A p from (wtA_in hok hp).1)
      have k2 : ((c * 1 * wtA A p : Nat) : Int) < ((mkA A p * b * wtA A p : Nat) : Int) := Int.ofNat_lt.mpr k1
      rw [Nat.mul_one, Nat.mul_right_comm, Nat.mul_comm _ b, Int.natCast_mul, Int.natCast_mul b] at k2
      unfold FF
      rw [Int.neg_mul]
      omega
  | 1, _ =>
    refine Or.inr (Or.inl ⟨rfl, ⟨fun p hp => by have := mkA_le hok hp; omega, fun v hv => isT_sign (sub_all (bs_lt _ _)) ?_ ?_ ?_⟩, fun p hp => rfl⟩)
    · intro p q hp hu hq
      rw [bs_bit, Bool.and_eq_true, decide_eq_true_iff, decide_eq_true_iff] at hp ⊢
      have := um hu
      exact ⟨allS_bit.mp hq, by omega⟩
    · intro p hp ht
      rw [bs_bit, Bool.and_eq_true, decide_eq_true_iff, decide_eq_true_iff] at ht
      unfold gv
      rw [if_pos ht.2]
      omega
    · intro p hp ht
      rw [bs_bit, Bool.and_eq_true, decide_eq_true_iff, decide_eq_true_iff] at ht
      have := (wtA_in hok hp).1
      unfold gv
      rw [if_neg (fun w => ht ⟨hp, w⟩)]
      omega
  | 2, _ =>
    refine Or.inr (Or.inr ⟨rfl, fun p hp => ?_⟩)
    have e1 : ∀ k, hiW A W p k = mkA A p := by
      intro k
      induction k with
      | zero => rfl
      | succ k ih =>
        rw [hiW, ih]
        by_cases c : undB A W k p = true
        · have := um (undB_iff.mp c)
          rw [if_pos c, if_neg (by omega)]
        · rw [if_neg c]
    have e2 : ∀ k, loW A W p k = mkA A p := by
      intro k
      induction k with
      | zero => rfl
      | succ k ih =>
        rw [loW, ih]
        by_cases c : undB A W p k = true
        · have := um (undB_iff.mp c)
          rw [if_pos c, if_neg (by omega)]
        · rw [if_neg c]
    have e3 : both A W p = mkA A p * 2 := by
      unfold both
      rw [e1, e2]
      omega
    rw [e3, Nat.gcd_mul_left_left]
    exact ⟨(Nat.mul_div_cancel _ (by decide)).symm, rfl⟩
/-- what the class has in her values behind a work by rules -/
def WV (s : T8) (A : Sh) (loss W : Nat) : Prop := SV8 s A ∧ ∃ u d, Spec A loss W u d ∧ Eqn (p8_aboves s) u (hN A) ∧ Eqn (p8_belows s) d (hN A)
theorem loss_ne {a b : Nat} (ha : a < 3) (hb : b < 3) (h : a ≠ b) : ¬ nI a = nI b := fun k => h (nI_inj (by omega) (by omega) k)
theorem work9 (s : T0) {t : T6} {A : Sh} (h6 : S6 t A) (hok : okS A) (z1 : p0_sums s 0 = 0) (z2 : p0_weighs s 0 = 0) (z3 : p0_downs s 0 = 0) {loss W : Nat} (hl : loss < 3) (hW : W < 2 ^ 12) : ∃ r, m_X0_work s t (nI loss) (nI W) = some r ∧ WV (u8_papers r.2.2.2.2.2.2.2.1 (u8_reduced (u1_below r.2.2.2.2.2.2.1 (u1_above r.2.2.2.2.2.1 (p8_reduced (p0_values s)))) (u8_belows r.2.2.2.2.1 (u8_aboves r.2.2.2.1 (u8_places r.2.2.1 (u8_weights r.2.1 (u8_marks r.1 (p0_values s)))))))) A loss W ∧ r.2.2.2.2.2.2.2.2.2.2.2.2.2.1 0 = 0 ∧ r.2.2.2.2.2.2.2.2.2.2.2.2.2.2.1 0 = 0 ∧ r.2.2.2.2.2.2.2.2.2.2.2.2.2.2.2 0 = 0 := by
  have n7 := hok.1.1
  have pp := Nat.two_pow_pos (hN A)
  obtain ⟨b, b1, b2, b3, b4, b5, b6, b7⟩ := begin8 (p0_values s) h6 hok
  have hv : SV8 (u8_papers b.2.2.2.2.2 (u8_belows b.2.2.2.2.1 (u8_aboves b.2.2.2.1 (u8_places b.2.2.1 (u8_weights b.2.1 (u8_marks b.1 (p0_values s))))))) A := ⟨b2, b3, b4, b7⟩
  obtain ⟨o, o1, o2⟩ := order5 (s := p0_order s) h6 hok hW
  unfold m_X0_work
  rw [b1, Option.bind_some]
  rcases break8 hv h6 hok hW with ⟨k1, k2⟩ | ⟨k1, k2⟩
  · rw [k1, Option.bind_some, if_neg (by decide), o1, Option.bind_some]
    by_cases c2 : loss = 2
    · obtain ⟨r, r1, u, d, r2, r3, r4⟩ := halfways9 (s := u0_order (u5_papers o.2.2.2.2 (u5_wrongs o.2.2.2.1 (u5_marks o.2.2.1 (u5_unders o.2.1 (u5_overs o.1 (p0_order s)))))) (u0_values (u8_papers b.2.2.2.2.2 (u8_belows b.2.2.2.2.1 (u8_aboves b.2.2.2.1 (u8_places b.2.2.1 (u8_weights b.2.1 (u8_marks b.1 (p0_values s))))))) s)) (W := W) hok hv o2
      rw [if_pos (show nI loss = 2 by rw [c2]; rfl), r1, Option.bind_some]
      exact ⟨_, rfl, ⟨⟨b2, b3, b4, b7⟩, u, d, Or.inr (Or.inr ⟨c2, r2⟩), r3, r4⟩, z1, z2, z3⟩
    · rw [if_neg (show ¬ nI loss = 2 from loss_ne (b := 2) hl (by decide) c2)]
      obtain ⟨f, f1, f2, f3, f4⟩ := fillSets9 (s := u0_order (u5_papers o.2.2.2.2 (u5_wrongs o.2.2.2.1 (u5_marks o.2.2.1 (u5_unders o.2.1 (u5_overs o.1 (p0_order s)))))) (u0_values (u8_papers b.2.2.2.2.2 (u8_belows b.2.2.2.2.1 (u8_aboves b.2.2.2.1 (u8_places b.2.2.1 (u8_weights b.2.1 (u8_marks b.1 (p0_values s))))))) s)) (W := W) hv o2 hok z1 z2 z3
      have w0 : suS A 0 = 0 := sm_zero (fun i _ => if_neg (by rw [Nat.zero_testBit]; decide))
      have w1 : wtS A 0 = 0 := sm_zero (fun i _ => if_neg (by rw [Nat.zero_testBit]; decide))
      have q1 : f.1 0 = 0 := by rw [f2 0 pp, w0]; rfl
      have q2 : f.2.1 0 = 0 := by rw [f3 0 pp, w1]; rfl
      have q3 : f.2.2 0 = 0 := by
        obtain ⟨D, d1, d2, d3⟩ := f4 0 pp
        have : D = 0 := Nat.eq_of_testBit_eq fun i => by
          rw [Nat.zero_testBit]
          cases c : D.testBit i with
          | false => rfl
          | true =>
            obtain ⟨p, hp, _⟩ := (d3 i).mp c
            rw [Nat.zero_testBit] at hp
            cases hp
        rw [d1, this]; rfl
      rw [f1, Option.bind_some]
      by_cases c0 : loss = 0
      · obtain ⟨r, r1, u, d, r2, r3, r4⟩ := squares9 (s := u0_downs f.2.2 (u0_weighs f.2.1 (u0_sums f.1 (u0_order (u5_papers o.2.2.2.2 (u5_wrongs o.2.2.2.1 (u5_marks o.2.2.1 (u5_unders o.2.1 (u5_overs o.1 (p0_order s)))))) (u0_values (u8_papers b.2.2.2.2.2 (u8_belows b.2.2.2.2.1 (u8_aboves b.2.2.2.1 (u8_places b.2.2.1 (u8_weights b.2.1 (u8_marks b.1 (p0_values s))))))) s))))) (W := W) hok hv f2 f3 f4
        rw [if_pos (show nI loss = 0 by rw [c0]; rfl), r1, Option.bind_some]
        exact ⟨_, rfl, ⟨⟨b2, b3, b4, b7⟩, u, d, Or.inl ⟨c0, r2⟩, r3, r4⟩, q1, q2, q3⟩
      · rw [if_neg (show ¬ nI loss = 0 from loss_ne (b := 0) hl (by decide) c0)]
        obtain ⟨r, r1, u, r2, r3, r4⟩ := absolutes9 (s := u0_downs f.2.2 (u0_weighs f.2.1 (u0_sums f.1 (u0_order (u5_papers o.2.2.2.2 (u5_wrongs o.2.2.2.1 (u5_marks o.2.2.1 (u5_unders o.2.1 (u5_overs o.1 (p0_order s)))))) (u0_values (u8_papers b.2.2.2.2.2 (u8_belows b.2.2.2.2.1 (u8_aboves b.2.2.2.1 (u8_places b.2.2.1 (u8_weights b.2.1 (u8_marks b.1 (p0_values s))))))) s))))) (W := W) hok hv f3 f4
        rw [r1, Option.bind_some]
        exact ⟨_, rfl, ⟨⟨b2, b3, b4, b7⟩, u, fun _ => 1, Or.inr (Or.inl ⟨by omega, r2, fun p hp => rfl⟩), r3, r4⟩, q1, q2, q3⟩
  · rw [k1, Option.bind_some, if_pos rfl]
    exact ⟨_, rfl, ⟨⟨b2, b3, b4, b7⟩, mkA A, fun _ => 1, Spec_marks hok hl k2, b5, b6⟩, z1, z2, z3⟩
