/-! the class by ABSOLUTE, the loop; by WORST -/
theorem red_one (v : Nat) : (mkRat (v : Int) 1).num = (v : Int) ∧ (mkRat (v : Int) 1).den = 1 := by
  obtain ⟨m1, m2, _⟩ := red_nat v (b := 1) (by decide)
  rw [Nat.gcd_one_right, Nat.div_one] at m1 m2
  exact ⟨m1, m2⟩
theorem absolutes9 {s : T0} {A : Sh} {W : Nat} (hok : okS A) (hv : SV8 (p0_values s) A) (t2 : Eqn (p0_weighs s) (wtS A) (2 ^ hN A)) (t3 : SD (p0_downs s) A W (2 ^ hN A)) : ∃ r, m_X0_layLeastAbsolutes s = some r ∧ ∃ u, Sp1 A W u ∧ Eqn r.1 u (hN A) ∧ Eqn r.2.1 (fun _ => 1) (hN A) := by
  have n7 := hok.1.1
  have p7 := pow_le7 n7
  have al := allS_lt A
  obtain ⟨x0, hx0, ini⟩ : ∃ x0, m_X0_leastMarkAbove s (-1) = some x0 ∧ ∃ v u, v ≤ 119 ∧ GA A W (allS A) v u ∧ (allS A = 0 ∨ (x0 = nI v ∧ v ≤ 118 ∧ (∃ p, p < hN A ∧ mkA A p = v))) := by
    rcases markAbove9 hv hok (-1) with ⟨a1, a2⟩ | ⟨w, a1, a2, a3, a4, a5⟩
    · refine ⟨_, a1, 0, fun _ => 0, by omega, GA_zero hok W _, Or.inl ?_⟩
      refine Classical.byContradiction fun c => ?_
      obtain ⟨i, hi⟩ := bit_of_ne0 c
      have := a2 i (allS_bit.mp hi)
      rw [show (-1 : Int32).toInt = -1 from rfl] at this
      omega
    · refine ⟨_, a1, w, fun _ => 0, by omega, GA_skips (GA_zero hok W _) (Nat.zero_le w) (fun p hp k => ?_), Or.inr ⟨rfl, a3, a4⟩⟩
      have := a5 p hp (by rw [show (-1 : Int32).toInt = -1 from rfl]; omega)
      omega
  obtain ⟨v0, u0, i1, i2, i3⟩ := ini
  obtain ⟨r, e, u, q1, q2, q3⟩ := lp_invf (f := fun z : Int32 × Int32 × Int32 × (Nat → Int32) × (Nat → Int32) × Int64 × Int64 => m_X0_layLeastAbsolutes_l16 s z.1 z.2.1 z.2.2.1 z.2.2.2.1 z.2.2.2.2.1 z.2.2.2.2.2.1 z.2.2.2.2.2.2) (I := fun c z => ∃ k R v u, k ≤ 7 ∧ c = 7 - k ∧ z.1 = nI R ∧ z.2.2.1 = nI k ∧ R < 2 ^ hN A ∧ v ≤ 119 ∧ GA A W R v u ∧ (∀ p, p < hN A → ¬ R.testBit p = true → z.2.2.2.1 p = nI (u p) ∧ z.2.2.2.2.1 p = 1) ∧ (R = 0 ∨ (z.2.1 = nI v ∧ v ≤ 118 ∧ (∃ p, p < hN A ∧ mkA A p = v) ∧ cge A v + k ≤ 7))) (Q := fun r => ∃ u, Sp1 A W u ∧ Eqn r.1 u (hN A) ∧ Eqn r.2.1 (fun _ => 1) (hN A)) (d := 7) (s := (nI (allS A), x0, (0 : Int32), p8_aboves (p0_values s), p8_belows (p0_values s), p1_above (p8_reduced (p0_values s)), p1_below (p8_reduced (p0_values s)))) (by
    rintro c ⟨z1, x, z2, fa, fb, za, zb⟩ ⟨k, R, v, u, hk, hc, rfl, rfl, hR, hv9, g, all, st⟩
    simp only at all st ⊢
    by_cases c0 : R = 0
    · have ok : ∀ p, ¬ R.testBit p = true := fun p => by rw [c0, Nat.zero_testBit]; decide
      refine Or.inr ⟨(fa, fb, za, zb), ?_, u, GA_end (by rw [c0] at g; exact g) hv9, fun p hp => (all p hp (ok p)).1, fun p hp => (all p hp (ok p)).2⟩
      unfold m_X0_layLeastAbsolutes_l16
      rw [c0]
      by_cases c7 : (7 : Int32) ≤ nI k
      · rw [if_pos c7]
      · rw [if_neg c7, if_pos (show nI 0 = 0 from rfl)]
    · obtain ⟨rfl, hv8, ⟨p0, hp0, hm0⟩, hcg⟩ := st.resolve_left c0
      have cp := cge_pos hp0 hm0
      have n0 : ¬ nI R = 0 := fun x => c0 (nI_inj (b := 0) (by omega) (by decide) x)
      obtain ⟨o1, o2⟩ := red_one v
      have hv' : SV8 (u8_reduced (u1_below zb (u1_above za (p8_reduced (p0_values s)))) (u8_belows fb (u8_aboves fa (p0_values s)))) A := hv
      have hv0 : SV8 (p0_values (u0_values (u8_reduced (u1_below zb (u1_above za (p8_reduced (p0_values s)))) (u8_belows fb (u8_aboves fa (p0_values s)))) s)) A := hv
      have layq : ∀ B, B < 2 ^ hN A → ∃ fa' fb', m_X8_lay (u8_reduced (u1_below zb (u1_above za (p8_reduced (p0_values s)))) (u8_belows fb (u8_aboves fa (p0_values s)))) (nI B) (nI v).toInt64 1 = some (fa', fb', J v, J 1) ∧ ∀ p, p < hN A → (B.testBit p = true → fa' p = nI v ∧ fb' p = 1) ∧ (¬ B.testBit p = true → fa' p = fa p ∧ fb' p = fb p) := by
        intro B hB
        obtain ⟨fa', fb', y1, y2⟩ := lay8 (s := u8_reduced (u1_below zb (u1_above za (p8_reduced (p0_values s)))) (u8_belows fb (u8_aboves fa (p0_values s)))) n7 hv.2.2.2 (x := B) (by omega) (a := (v : Int)) (b := 1) (rng_nat (by omega)) (by decide) (rng_nat (by decide))
        rw [o1, o2, zI_nat] at y2
        rw [o1, o2] at y1
        refine ⟨fa', fb', ?_, y2⟩
        rw [nI_64 (by omega)]
        exact y1
      have fin : ∀ B x17, B < 2 ^ hN A → (m_X0_layLeastAbsolutes_l16 s (nI R) (nI v) (nI k) fa fb za zb = (m_X8_lay (u8_reduced (u1_below zb (u1_above za (p8_reduced (p0_values s)))) (u8_belows fb (u8_aboves fa (p0_values s)))) (nI B) (nI v).toInt64 1).bind fun x21 => some (.inl ((nI R &&& (nI B ^^^ -1)), x17, nI k + 1, x21.1, x21.2.1, x21.2.2.1, x21.2.2.2))) → sub B R → isT A W R (gv A (v + 1)) B → ((dif R B = 0) ∨ ∃ w, x17 = nI w ∧ v < w ∧ w ≤ 118 ∧ (∃ p, p < hN A ∧ mkA A p = w) ∧ ∀ p, p < hN A → v < mkA A p → w ≤ mkA A p) → ∃ d' s', m_X0_layLeastAbsolutes_l16 s (nI R) (nI v) (nI k) fa fb za zb = some (.inl s') ∧ d' < c ∧ ∃ k R v u, k ≤ 7 ∧ d' = 7 - k ∧ s'.1 = nI R ∧ s'.2.2.1 = nI k ∧ R < 2 ^ hN A ∧ v ≤ 119 ∧ GA A W R v u ∧ (∀ p, p < hN A → ¬ R.testBit p = true → s'.2.2.2.1 p = nI (u p) ∧ s'.2.2.2.2.1 p = 1) ∧ (R = 0 ∨ (s'.2.1 = nI v ∧ v ≤ 118 ∧ (∃ p, p < hN A ∧ mkA A p = v) ∧ cge A v + k ≤ 7)) := by
        intro B x17 hB go sB tB nx
        obtain ⟨fa', fb', y1, y2⟩ := layq B hB
        rw [y1, Option.bind_some, nI_dif, nI_1] at go
        have g' := GA_rest (u' := fun p => if B.testBit p = true then v else u p) g tB (fun p hp h => if_neg (fun x => h (sB p x))) (fun p hp h => if_pos h)
        have all' : ∀ p, p < hN A → ¬ (dif R B).testBit p = true → fa' p = nI (if B.testBit p = true then v else u p) ∧ fb' p = 1 := by
          intro p hp h
          by_cases cb : B.testBit p = true
          · rw [if_pos cb]; exact (y2 p hp).1 cb
          · rw [if_neg cb, ((y2 p hp).2 cb).1, ((y2 p hp).2 cb).2]
            exact all p hp (fun x => h (dif_bitp.mpr ⟨x, cb⟩))
        rcases nx with nx | ⟨w, rfl, n1, n2, n3, n4⟩
        · exact ⟨7 - (k + 1), _, go, by omega, k + 1, dif R B, v + 1, _, by omega, rfl, rfl, rfl, dif_lt hR, by omega, g', all', Or.inl nx⟩
        · have := cge_lt hp0 hm0 n1
          exact ⟨7 - (k + 1), _, go, by omega, k + 1, dif R B, w, _, by omega, rfl, rfl, rfl, dif_lt hR, by omega, GA_skips g' n1 (fun p hp h => by have := n4 p hp (by omega); omega), all', Or.inr ⟨rfl, n2, n3, by omega⟩⟩
      refine Or.inl ?_
      rcases markAbove9 hv0 hok (nI v) with ⟨a1, a2⟩ | ⟨w, a1, a2, a3, a4, a5⟩
      · refine fin R (nI v) hR ?_ (fun i hi => hi) (isT_neg (fun p hp => ?_)) (Or.inl (Nat.eq_of_testBit_eq fun i => by
          rw [dif_bit, Nat.zero_testBit]
          cases R.testBit i <;> rfl))
        · unfold m_X0_layLeastAbsolutes_l16
          rw [if_neg (show ¬ (7 : Int32) ≤ nI k from nI_ge (b := 7) (by omega) (by omega)), if_neg n0, a1, Option.bind_some, if_pos (nI_le (Nat.le_refl v) (by omega)), Option.bind_some]
        · have := a2 p hp
          rw [nI_toInt (by omega)] at this
          unfold gv
          rw [if_pos (by omega)]
          omega
      · rw [nI_toInt (by omega)] at a2 a5
        obtain ⟨B, b1, b2⟩ := cheapest9 (s := u0_values (u8_reduced (u1_below zb (u1_above za (p8_reduced (p0_values s)))) (u8_belows fb (u8_aboves fa (p0_values s)))) s) (v := v) hok t2 t3 hR
        refine fin B (nI w) (sub_lt b2.1 hR) ?_ b2.1 b2 (Or.inr ⟨w, rfl, by omega, a3, a4, fun p hp h => a5 p hp (by omega)⟩)
        unfold m_X0_layLeastAbsolutes_l16
        rw [if_neg (show ¬ (7 : Int32) ≤ nI k from nI_ge (b := 7) (by omega) (by omega)), if_neg n0, a1, Option.bind_some, if_neg (nI_ge (by omega) (by omega)), upTo8 hv' hok (by omega), Option.bind_some, b1, Option.bind_some, Option.bind_some]) ⟨0, allS A, v0, u0, by omega, rfl, rfl, rfl, al, i1, i2, fun p hp h => absurd (allS_bit.mpr hp) h, i3.imp id (fun ⟨a, b, c⟩ => ⟨a, b, c, by have := cge_le A v0; omega⟩)⟩ (by omega)
  refine ⟨(r.1, r.2.1, r.2.2.1, r.2.2.2), ?_, u, q1, q2, q3⟩
  unfold m_X0_layLeastAbsolutes
  rw [allPapers8 hv hok, Option.bind_some, hx0, Option.bind_some, e, Option.bind_some]
/-- the greatest mark of p and of those under it, of the first k -/
noncomputable def hiW (A : Sh) (W p : Nat) : Nat → Nat
  | 0 => mkA A p
  | k + 1 => if undB A W k p = true then (if hiW A W p k < mkA A k then mkA A k else hiW A W p k) else hiW A W p k
noncomputable def loW (A : Sh) (W p : Nat) : Nat → Nat
  | 0 => mkA A p
  | k + 1 => if undB A W p k = true then (if mkA A k < loW A W p k then mkA A k else loW A W p k) else loW A W p k
theorem hiW_le {A : Sh} (hok : okS A) {W p : Nat} (hp : p < hN A) : ∀ k, k ≤ hN A → hiW A W p k ≤ 118 := by
  intro k
  induction k with
  | zero => intro _; exact mkA_le hok hp
  | succ k ih =>
    intro hk
    have := mkA_le hok (show k < hN A by omega)
    have := ih (by omega)
    rw [hiW]
    split
    · split <;> omega
    · omega
theorem loW_le {A : Sh} (hok : okS A) {W p : Nat} (hp : p < hN A) : ∀ k, k ≤ hN A → loW A W p k ≤ 118 := by
  intro k
  induction k with
  | zero => intro _; exact mkA_le hok hp
  | succ k ih =>
    intro hk
    have := mkA_le hok (show k < hN A by omega)
    have := ih (by omega)
    rw [loW]
    split
    · split <;> omega
    · omega
noncomputable def both (A : Sh) (W p : Nat) : Nat := hiW A W p (hN A) + loW A W p (hN A)
def Sp2 (A : Sh) (W : Nat) (u d : Nat → Nat) : Prop := ∀ p, p < hN A → u p = both A W p / Nat.gcd (both A W p) 2 ∧ d p = 2 / Nat.gcd (both A W p) 2
theorem half_in {s : T0} {A : Sh} {W : Nat} (hok : okS A) (hv : SV8 (p0_values s) A) (ho : SO (p0_order s) A W) {p : Nat} (hp : p < hN A) (fa fb : Nat → Int32) (za zb : Int64) : lp (fun z : Int32 × Int32 × Int32 => m_X0_layHalfways_l27_2 s (nI p) fa fb za zb z.1 z.2.1 z.2.2) fu (nI (mkA A p), nI (mkA A p), (0 : Int32)) = some (nI (hiW A W p (hN A)), nI (loW A W p (hN A))) := by
  have n7 := hok.1.1
  have p7 := pow_le7 n7
  have hv' : SV8 (u8_reduced (u1_below zb (u1_above za (p8_reduced (p0_values s)))) (u8_belows fb (u8_aboves fa (p0_values s)))) A := hv
  have b1 := bls_lt A W p
  have b2 := ovs_lt A W p
  refine lp_for (fun k => (nI (hiW A W p k), nI (loW A W p k), nI k)) (hN A) (fun k hk => ?_) ?_ (by omega) rfl
  · have m1 := mkA_le hok hk
    have m2 := hiW_le hok (W := W) hp k (by omega)
    have m3 := loW_le hok (W := W) hp k (by omega)
    simp only [m_X0_layHalfways_l27_2, m_X8_paperCount]
    rw [Option.bind_some, hv'.2.2.2, if_neg (nI_ge hk (by omega)), undersOf5 ho hok hp, Option.bind_some, hasBit9 (by omega) (by omega), bls_und hk, Option.bind_some]
    have s1 : Option.bind (α := Int32) (if (if undB A W k p = true then (1 : Int32) else 0) = 0 then some (nI (hiW A W p k)) else ((m_X8_markAt (u8_reduced (u1_below zb (u1_above za (p8_reduced (p0_values s)))) (u8_belows fb (u8_aboves fa (p0_values s)))) (nI k)).bind fun x64 => (some (if nI (hiW A W p k) < x64 then x64 else nI (hiW A W p k))).bind fun x65 => some x65)) = Option.bind (some (nI (hiW A W p (k + 1)))) (β := (Int32 × Int32 × Int32) ⊕ (Int32 × Int32)) := by
      congr 1
      rw [hiW]
      by_cases c : undB A W k p = true
      · rw [if_pos c, if_neg (by decide), markAt8 hv' hok hk, Option.bind_some, Option.bind_some, if_pos c]
        by_cases c2 : hiW A W p k < mkA A k
        · rw [if_pos c2, if_pos ((nI_lti (by omega) (by omega)).mpr c2)]
        · rw [if_neg c2, if_neg (fun x => c2 ((nI_lti (by omega) (by omega)).mp x))]
      · rw [if_neg c, if_pos rfl, if_neg c]
    rw [s1, Option.bind_some, oversOf5 ho hok hp, Option.bind_some, hasBit9 (by omega) (by omega), ovs_und hk, Option.bind_some, nI_1, loW]
    by_cases c : undB A W p k = true
    · rw [if_pos c, if_neg (by decide), markAt8 hv' hok hk, Option.bind_some, Option.bind_some, if_pos c]
      by_cases c2 : mkA A k < loW A W p k
      · rw [if_pos c2, if_pos ((nI_lti (by omega) (by omega)).mpr c2)]
      · rw [if_neg c2, if_neg (fun x => c2 ((nI_lti (by omega) (by omega)).mp x))]
    · rw [if_neg c, if_pos rfl, if_neg c]
  · simp only [m_X0_layHalfways_l27_2, m_X8_paperCount]
    rw [Option.bind_some, hv'.2.2.2, if_pos (nI_le (Nat.le_refl _) (by omega))]
theorem halfways9 {s : T0} {A : Sh} {W : Nat} (hok : okS A) (hv : SV8 (p0_values s) A) (ho : SO (p0_order s) A W) : ∃ r, m_X0_layHalfways s = some r ∧ ∃ u d, Sp2 A W u d ∧ Eqn r.1 u (hN A) ∧ Eqn r.2.1 d (hN A) := by
  have n7 := hok.1.1
  have p7 := pow_le7 n7
  obtain ⟨r, e, q2, q3⟩ := lp_invf (f := fun z : Int32 × (Nat → Int32) × (Nat → Int32) × Int64 × Int64 => m_X0_layHalfways_l2 s z.1 z.2.1 z.2.2.1 z.2.2.2.1 z.2.2.2.2) (I := fun c z => ∃ k, k ≤ hN A ∧ c = hN A - k ∧ z.1 = nI k ∧ Eqn z.2.1 (fun p => both A W p / Nat.gcd (both A W p) 2) k ∧ Eqn z.2.2.1 (fun p => 2 / Nat.gcd (both A W p) 2) k) (Q := fun r => Eqn r.1 (fun p => both A W p / Nat.gcd (both A W p) 2) (hN A) ∧ Eqn r.2.1 (fun p => 2 / Nat.gcd (both A W p) 2) (hN A)) (d := hN A) (s := ((0 : Int32), p8_aboves (p0_values s), p8_belows (p0_values s), p1_above (p8_reduced (p0_values s)), p1_below (p8_reduced (p0_values s)))) (by
    rintro c ⟨i, fa, fb, za, zb⟩ ⟨k, hk, hc, rfl, e1, e2⟩
    simp only at e1 e2 ⊢
    have hv' : SV8 (u8_reduced (u1_below zb (u1_above za (p8_reduced (p0_values s)))) (u8_belows fb (u8_aboves fa (p0_values s)))) A := hv
    rcases Nat.lt_or_ge k (hN A) with q | q
    · have m2 := hiW_le hok (W := W) q (hN A) (Nat.le_refl _)
      have m3 := loW_le hok (W := W) q (hN A) (Nat.le_refl _)
      have m4 : both A W k < 1000 := by unfold both; omega
      obtain ⟨o1, o2, o3, o4, o5⟩ := red_nat (both A W k) (b := 2) (by decide)
      obtain ⟨fa', fb', y1, y2⟩ := lay8 (s := u8_reduced (u1_below zb (u1_above za (p8_reduced (p0_values s)))) (u8_belows fb (u8_aboves fa (p0_values s)))) n7 hv.2.2.2 (x := 2 ^ k) (by have := Nat.pow_lt_pow_right (a := 2) (by decide) q; omega) (a := (both A W k : Int)) (b := 2) (rng_nat (by omega)) (by decide) (rng_nat (by decide))
      refine Or.inl ⟨hN A - (k + 1), (nI (k + 1), fa', fb', J (mkRat (both A W k : Int) 2).num, J ((mkRat (both A W k : Int) 2).den : Int)), ?_, by omega, k + 1, by omega, rfl, rfl, fun p hp => ?_, fun p hp => ?_⟩
      · unfold m_X0_layHalfways_l2 m_X8_paperCount
        rw [Option.bind_some, hv'.2.2.2, if_neg (nI_ge q (by omega)), markAt8 hv' hok q, Option.bind_some, half_in hok hv ho q, Option.bind_some, nI_shl1 _ (by omega), nI_add, nI_64 (by omega)]
        have y1' : m_X8_lay (u8_reduced (u1_below zb (u1_above za (p8_reduced (p0_values s)))) (u8_belows fb (u8_aboves fa (p0_values s)))) (nI (2 ^ k)) (J ((hiW A W k (hN A) + loW A W k (hN A) : Nat) : Int)) 2 = _ := y1
        rw [y1', Option.bind_some, nI_1]
      · have hp : p < k + 1 := hp
        show fa' p = nI (both A W p / Nat.gcd (both A W p) 2)
        by_cases w : p = k
        · rw [((y2 p (by omega)).1 (pow_bit.mpr w)).1, o1, zI_nat, w]
        · rw [((y2 p (by omega)).2 (fun x => w (pow_bit.mp x))).1]
          exact e1 p (by omega)
      · have hp : p < k + 1 := hp
        show fb' p = nI (2 / Nat.gcd (both A W p) 2)
        by_cases w : p = k
        · rw [((y2 p (by omega)).1 (pow_bit.mpr w)).2, o2, w]
        · rw [((y2 p (by omega)).2 (fun x => w (pow_bit.mp x))).2]
          exact e2 p (by omega)
    · refine Or.inr ⟨(fa, fb, za, zb), ?_, Eqn_less e1 q, Eqn_less e2 q⟩
      unfold m_X0_layHalfways_l2 m_X8_paperCount
      rw [Option.bind_some, hv'.2.2.2, if_pos (nI_le q (by omega))]) ⟨0, Nat.zero_le _, rfl, rfl, fun i hi => absurd hi (Nat.not_lt_zero i), fun i hi => absurd hi (Nat.not_lt_zero i)⟩ (by omega)
  refine ⟨(r.1, r.2.1, r.2.2.1, r.2.2.2), ?_, _, _, fun p hp => ⟨rfl, rfl⟩, q2, q3⟩
  unfold m_X0_layHalfways
  rw [e, Option.bind_some]
