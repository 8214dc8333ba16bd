/-! the reference by ABSOLUTE -/
def cst (A : Sh) (x v : Nat) : Nat := sm (fun p => if x.testBit p = decide (v < mkA A p) then 0 else wtA A p) (hN A)
theorem cst_I {A : Sh} (x v : Nat) : (cst A x v : Int) = sI (gv A (v + 1)) (dif (allS A) x) (hN A) + ((sm (fun p => if mkA A p ≤ v then wtA A p else 0) (hN A) : Nat) : Int) := by
  have key : ∀ k, k ≤ hN A → ((sm (fun p => if x.testBit p = decide (v < mkA A p) then 0 else wtA A p) k : Nat) : Int) = sI (gv A (v + 1)) (dif (allS A) x) k + ((sm (fun p => if mkA A p ≤ v then wtA A p else 0) k : Nat) : Int) := by
    intro k
    induction k with
    | zero => intro _; rfl
    | succ k ih =>
      intro hk
      have i := ih (by omega)
      have ha : (allS A).testBit k = true := allS_bit.mpr (by omega)
      rw [sm, sm, sI, Int.natCast_add, Int.natCast_add, i]
      by_cases c : x.testBit k = true
      · have nd : ¬ (dif (allS A) x).testBit k = true := fun h => (dif_bitp.mp h).2 c
        rw [if_neg nd, c]
        by_cases c2 : v < mkA A k
        · rw [if_pos (decide_eq_true c2).symm, if_neg (by omega)]
          omega
        · rw [if_neg (by rw [decide_eq_false c2]; decide), if_pos (by omega)]
          omega
      · have nd : (dif (allS A) x).testBit k = true := dif_bitp.mpr ⟨ha, c⟩
        have cf : x.testBit k = false := by simpa using c
        rw [if_pos nd, cf]
        unfold gv
        by_cases c2 : v < mkA A k
        · rw [if_neg (by rw [decide_eq_true c2]; decide), if_neg (show ¬ mkA A k ≤ v by omega), if_neg (show ¬ mkA A k < v + 1 by omega)]
          omega
        · rw [if_pos (decide_eq_false c2).symm, if_pos (show mkA A k ≤ v by omega), if_pos (show mkA A k < v + 1 by omega)]
          omega
  exact key (hN A) (Nat.le_refl _)
theorem cst_le {A : Sh} (hok : okS A) (x v : Nat) : cst A x v ≤ 126 := by
  have h : cst A x v ≤ sm (fun _ => 18) (hN A) := sm_le (fun i hi => by
    have := wtA_in hok hi
    split <;> omega)
  rw [sm_const] at h
  have := hok.1.1
  have : 18 * hN A ≤ 18 * 7 := Nat.mul_le_mul_left _ this
  omega
theorem cost10 {s : T10} {A : Sh} (h : S10 s A) (hok : okS A) {x v : Nat} (hx : x < 2 ^ hN A) (hv : v < 2 ^ 31) : m_X10_costOf s (nI x) (nI v) = some (nI (cst A x v)) := by
  have n7 := hok.1.1
  have p7 := pow_le7 n7
  have key : lp (fun z : Int32 × Int32 => m_X10_costOf_l5 s (nI x) (nI v) z.1 z.2) fu ((0 : Int32), (0 : Int32)) = some (nI (cst A x v)) := by
    refine lp_for (fun k => (nI (sm (fun p => if x.testBit p = decide (v < mkA A p) then 0 else wtA A p) k), nI k)) (hN A) (fun k hk => ?_) ?_ (by omega) rfl
    · have m1 := mkA_le hok hk
      simp only [m_X10_costOf_l5]
      rw [h.1, if_neg (nI_ge hk (by omega)), has10 (by omega) (by omega), Option.bind_some, mark10 h hok hk, Option.bind_some, nI_1, weight10 h hok hk, sm]
      by_cases c2 : v < mkA A k
      · rw [if_neg (fun q => by have := (nI_lei (by omega) (by omega)).mp q; omega), Option.bind_some, decide_eq_true c2]
        cases c : x.testBit k with
        | true => rw [if_pos rfl, if_pos rfl, if_pos rfl, Int32.add_zero]; rfl
        | false => rw [if_neg (show ¬ (false = true) by decide), if_neg (show ¬ (0 : Int32) = 1 by decide), if_neg (show ¬ (false = true) by decide), Option.bind_some, nI_add]
      · rw [if_pos ((nI_lei (by omega) (by omega)).mpr (by omega)), Option.bind_some, decide_eq_false c2]
        cases c : x.testBit k with
        | true => rw [if_pos rfl, if_neg (show ¬ (1 : Int32) = 0 by decide), if_neg (show ¬ (true = false) by decide), Option.bind_some, nI_add]
        | false => rw [if_neg (show ¬ (false = true) by decide), if_pos rfl, if_pos rfl, Int32.add_zero]; rfl
    · simp only [m_X10_costOf_l5]
      rw [h.1, if_pos (nI_le (Nat.le_refl _) (by omega))]
      rfl
  unfold m_X10_costOf
  rw [key, Option.bind_some]
theorem dd {A : Sh} {T : Nat} (h : sub T (allS A)) : dif (allS A) (dif (allS A) T) = T := sub_eq (fun i hi => Classical.byContradiction fun c => (dif_bitp.mp hi).2 (dif_bitp.mpr ⟨(dif_bitp.mp hi).1, c⟩)) (fun i hi => dif_bitp.mpr ⟨h i hi, fun k => (dif_bitp.mp k).2 hi⟩)
theorem above10 {s : T10} {A : Sh} {W : Nat} (hok : okS A) (h : SR s A W) {v : Nat} (hv : v < 2 ^ 31) : ∃ T, m_X10_above s (nI v) = some (nI (dif (allS A) T)) ∧ isT A W (allS A) (gv A (v + 1)) T := by
  have n7 := hok.1.1
  have p7 := pow_le7 n7
  have al := allS_lt A
  obtain ⟨T, hT⟩ := isT_ex hok W al (gv A (v + 1))
  obtain ⟨r, e, q⟩ := lp_invf (f := fun z : Int32 × Int32 => m_X10_above_l14 s (nI v) (nI (allS A)) z.1 z.2) (I := fun d z => ∃ t M, t ≤ 2 ^ hN A ∧ d = 2 ^ hN A - t ∧ z.2 = nI t ∧ z.1 = nI M ∧ M < 2 ^ hN A ∧ low A W (dif (allS A) M) (allS A) ∧ ∀ x, x < t → low A W (dif (allS A) x) (allS A) → cst A M v < cst A x v ∨ (cst A M v = cst A x v ∧ pcn M ≤ pcn x)) (Q := fun r => r = nI (dif (allS A) T)) (d := 2 ^ hN A) (s := (nI (allS A), (0 : Int32))) (by
    rintro d ⟨z1, z2⟩ ⟨t, M, ht, hd, rfl, rfl, hM, lM, all⟩
    simp only
    rcases Nat.lt_or_ge t (2 ^ hN A) with q | q
    · refine Or.inl ?_
      have b1 := pcn_le t (by omega)
      have b2 := pcn_le M (by omega)
      have c1 := cst_le hok t v
      have c2 := cst_le hok M v
      have go : m_X10_above_l14 s (nI v) (nI (allS A)) (nI M) (nI t) = (m_X10_isLow s (nI (dif (allS A) t)) (nI (allS A))).bind fun x9 => if x9 = 0 then some (.inl (nI M, nI (t + 1))) else if cst A t v < cst A M v then some (.inl (nI t, nI (t + 1))) else if cst A t v = cst A M v then (if pcn M ≤ pcn t then some (.inl (nI M, nI (t + 1))) else some (.inl (nI t, nI (t + 1)))) else some (.inl (nI M, nI (t + 1))) := by
        unfold m_X10_above_l14
        rw [h.1.1, nI_shl1 _ (by omega), if_neg (nI_ge q (by omega)), nI_dif, cost10 h.1 hok q hv, cost10 h.1 hok hM hv, bc7 _ (by omega), bc7 _ (by omega)]
        simp only [Option.bind_some, nI_1]
        congr 1
        funext x9
        have e0 : nI (cst A t v) - nI (cst A M v) = zI ((cst A t v : Int) - (cst A M v : Int)) := by rw [← zI_nat, ← zI_nat, zI_sub]
        have P1 : nI (cst A t v) - nI (cst A M v) < 0 ↔ cst A t v < cst A M v := by
          rw [e0]
          have := zI_lt (a := (cst A t v : Int) - (cst A M v : Int)) (b := 0) (by omega) (by omega) (by omega) (by omega)
          exact this.trans (by omega)
        have P2 : nI (cst A t v) - nI (cst A M v) = 0 ↔ cst A t v = cst A M v := by
          rw [i_eq, e0, zI_int (by omega) (by omega), z32]
          omega
        by_cases k : cst A t v < cst A M v
        · rw [if_pos k, if_pos (P1.mpr k)]
        · rw [if_neg k, if_neg (fun x => k (P1.mp x))]
          by_cases k2 : cst A t v = cst A M v
          · rw [if_pos k2, if_pos (P2.mpr k2)]
            by_cases k3 : pcn M ≤ pcn t
            · rw [if_pos k3, if_pos ((nI_lei (by omega) (by omega)).mpr k3)]
            · rw [if_neg k3, if_neg (fun x => k3 ((nI_lei (by omega) (by omega)).mp x))]
          · rw [if_neg k2, if_neg (fun x => k2 (P2.mp x))]
      rw [go]
      rcases isLow10 h hok (B := dif (allS A) t) (R := allS A) (dif_lt al) al with ⟨l1, l2⟩ | ⟨l1, l2⟩
      · rw [l1, Option.bind_some, if_neg (by decide)]
        by_cases k : cst A t v < cst A M v
        · rw [if_pos k]
          refine ⟨2 ^ hN A - (t + 1), _, rfl, by omega, t + 1, t, by omega, rfl, rfl, rfl, q, l2, fun x hx hl => ?_⟩
          rcases Nat.lt_or_ge x t with w | w
          · have := all x w hl; omega
          · rw [show x = t by omega]; exact Or.inr ⟨rfl, Nat.le_refl _⟩
        · rw [if_neg k]
          by_cases k2 : cst A t v = cst A M v
          · rw [if_pos k2]
            by_cases k3 : pcn M ≤ pcn t
            · rw [if_pos k3]
              refine ⟨2 ^ hN A - (t + 1), _, rfl, by omega, t + 1, M, by omega, rfl, rfl, rfl, hM, lM, fun x hx hl => ?_⟩
              rcases Nat.lt_or_ge x t with w | w
              · exact all x w hl
              · rw [show x = t by omega]; exact Or.inr ⟨k2.symm, k3⟩
            · rw [if_neg k3]
              refine ⟨2 ^ hN A - (t + 1), _, rfl, by omega, t + 1, t, by omega, rfl, rfl, rfl, q, l2, fun x hx hl => ?_⟩
              rcases Nat.lt_or_ge x t with w | w
              · have := all x w hl; omega
              · rw [show x = t by omega]; exact Or.inr ⟨rfl, Nat.le_refl _⟩
          · rw [if_neg k2]
            refine ⟨2 ^ hN A - (t + 1), _, rfl, by omega, t + 1, M, by omega, rfl, rfl, rfl, hM, lM, fun x hx hl => ?_⟩
            rcases Nat.lt_or_ge x t with w | w
            · exact all x w hl
            · rw [show x = t by omega]; exact Or.inl (by omega)
      · rw [l1, Option.bind_some, if_pos rfl]
        refine ⟨2 ^ hN A - (t + 1), _, rfl, by omega, t + 1, M, by omega, rfl, rfl, rfl, hM, lM, fun x hx hl => ?_⟩
        rcases Nat.lt_or_ge x t with w | w
        · exact all x w hl
        · rw [show x = t by omega] at hl; exact absurd hl l2
    · refine Or.inr ⟨nI M, ?_, congrArg nI ?_⟩
      · unfold m_X10_above_l14
        rw [h.1.1, nI_shl1 _ (by omega), if_pos (nI_le q (by omega))]
      · have hx : dif (allS A) T < 2 ^ hN A := dif_lt al
        have a1 := all (dif (allS A) T) (by omega) (by rw [dd hT.1]; exact hT.2.1)
        have a2 := cst_I (A := A) M v
        have a3 := cst_I (A := A) (dif (allS A) T) v
        rw [dd hT.1] at a3
        have a4 := hT.2.2.1 (dif (allS A) M) (fun i hi => (dif_bitp.mp hi).1) lM
        have a5 := hT.2.2.2 (dif (allS A) M) (fun i hi => (dif_bitp.mp hi).1) lM (by omega)
        have s1 : sub (dif (allS A) T) M := fun i hi => Classical.byContradiction fun c => (dif_bitp.mp hi).2 (a5 i (dif_bitp.mpr ⟨(dif_bitp.mp hi).1, c⟩))
        exact sub_eq (pcn_sub (by omega) s1 (by omega)) s1) ⟨0, allS A, Nat.zero_le _, rfl, rfl, rfl, al, by
        have z : dif (allS A) (allS A) = 0 := Nat.eq_of_testBit_eq fun i => by
          rw [dif_bit, Nat.zero_testBit]
          cases (allS A).testBit i <;> rfl
        rw [z]
        exact low_zero A W _, fun x hx => absurd hx (Nat.not_lt_zero x)⟩ (by omega)
  refine ⟨T, ?_, hT⟩
  unfold m_X10_above
  rw [h.1.1, nI_shl1 _ (by omega), nI_pred_of (Nat.two_pow_pos _), Option.bind_some, e, Option.bind_some, q]
theorem isMark10 {s : T10} {A : Sh} (h : S10 s A) (hok : okS A) {v : Nat} (hv : v < 2 ^ 31) : (m_X10_isMark s (nI v) = some 1 ∧ ∃ p, p < hN A ∧ mkA A p = v) ∨ (m_X10_isMark s (nI v) = some 0 ∧ ∀ p, p < hN A → mkA A p ≠ v) := by
  have n7 := hok.1.1
  obtain ⟨r, e, q⟩ := lp_invf (f := fun z : Int32 => m_X10_isMark_l2 s (nI v) z) (I := fun d z => ∃ k, k ≤ hN A ∧ d = hN A - k ∧ z = nI k ∧ ∀ p, p < k → mkA A p ≠ v) (Q := fun r => (r = .inl () ∧ ∃ p, p < hN A ∧ mkA A p = v) ∨ (r = .inr () ∧ ∀ p, p < hN A → mkA A p ≠ v)) (d := hN A) (s := 0) (by
    rintro d z ⟨k, hk, hd, rfl, no⟩
    rcases Nat.lt_or_ge k (hN A) with q | q
    · have m1 := mkA_le hok q
      have go : m_X10_isMark_l2 s (nI v) (nI k) = if mkA A k = v then some (.inr (.inl ())) else some (.inl (nI (k + 1))) := by
        unfold m_X10_isMark_l2
        rw [h.1, if_neg (nI_ge q (by omega)), mark10 h hok q, Option.bind_some, nI_1]
        by_cases c : mkA A k = v
        · rw [if_pos c, c, if_pos rfl]
        · rw [if_neg c, if_neg (fun x => c (nI_inj (by omega) hv x))]
      rw [go]
      by_cases c : mkA A k = v
      · rw [if_pos c]
        exact Or.inr ⟨_, rfl, Or.inl ⟨rfl, k, q, c⟩⟩
      · rw [if_neg c]
        refine Or.inl ⟨hN A - (k + 1), _, rfl, by omega, k + 1, by omega, rfl, rfl, fun p hp => ?_⟩
        rcases Nat.lt_or_ge p k with w | w
        · exact no p w
        · rw [show p = k by omega]; exact c
    · refine Or.inr ⟨.inr (), ?_, Or.inr ⟨rfl, fun p hp => no p (by omega)⟩⟩
      unfold m_X10_isMark_l2
      rw [h.1, if_pos (nI_le q (by omega))]) ⟨0, Nat.zero_le _, rfl, rfl, fun p hp => absurd hp (Nat.not_lt_zero p)⟩ (by omega)
  unfold m_X10_isMark
  rw [e, Option.bind_some]
  rcases q with ⟨rfl, q⟩ | ⟨rfl, q⟩
  · exact Or.inl ⟨rfl, q⟩
  · exact Or.inr ⟨rfl, q⟩
theorem getSum10 {s : T10} {A : Sh} {W : Nat} (hok : okS A) (h : SR s A W) {R M v : Nat} (hR : R < 2 ^ hN A) (hv : v < 2 ^ 31) (za zb : Int64) (fa fb : Nat → Int32) : ∃ ya yb ga gb, lp (fun z : Int32 × Int64 × Int64 × (Nat → Int32) × (Nat → Int32) => m_X10_leastSums_l35_2 s (nI R) (nI v) (nI M) z.1 z.2.1 z.2.2.1 z.2.2.2.1 z.2.2.2.2) fu ((0 : Int32), za, zb, fa, fb) = some (ya, yb, ga, gb) ∧ ∀ p, p < hN A → ((dif R M).testBit p = true → ga p = nI v ∧ gb p = 1) ∧ (¬ (dif R M).testBit p = true → ga p = fa p ∧ gb p = fb p) := by
  have n7 := hok.1.1
  have p7 := pow_le7 n7
  have ld := dif_le R M
  have g1 : v / Nat.gcd v 1 = v := by rw [Nat.gcd_one_right, Nat.div_one]
  have g2 : 1 / Nat.gcd v 1 = 1 := by rw [Nat.gcd_one_right]
  obtain ⟨r, e, q⟩ := lp_invf (f := fun z : Int32 × Int64 × Int64 × (Nat → Int32) × (Nat → Int32) => m_X10_leastSums_l35_2 s (nI R) (nI v) (nI M) z.1 z.2.1 z.2.2.1 z.2.2.2.1 z.2.2.2.2) (I := fun c z => ∃ k, k ≤ hN A ∧ c = hN A - k ∧ z.1 = nI k ∧ ∀ p, p < hN A → ((dif R M).testBit p = true → p < k → z.2.2.2.1 p = nI v ∧ z.2.2.2.2 p = 1) ∧ ((¬ (dif R M).testBit p = true ∨ k ≤ p) → z.2.2.2.1 p = fa p ∧ z.2.2.2.2 p = fb p)) (Q := fun r => ∀ p, p < hN A → ((dif R M).testBit p = true → r.2.2.1 p = nI v ∧ r.2.2.2 p = 1) ∧ (¬ (dif R M).testBit p = true → r.2.2.1 p = fa p ∧ r.2.2.2 p = fb p)) (d := hN A) (s := ((0 : Int32), za, zb, fa, fb)) (by
    rintro c ⟨i, ya, yb, ga, gb⟩ ⟨k, hk, hc, rfl, all⟩
    simp only at all ⊢
    rcases Nat.lt_or_ge k (hN A) with q | q
    · refine Or.inl ?_
      by_cases c1 : (dif R M).testBit k = true
      · refine ⟨hN A - (k + 1), (nI (k + 1), J (v : Int), J 1, upd ga k (nI v), upd gb k 1), ?_, by omega, k + 1, by omega, rfl, rfl, fun p hp => ⟨fun h1 h2 => ?_, fun h1 => ?_⟩⟩
        · have gt := gets10 (u10_valueDown gb (u10_valueUp ga (u10_down yb (u10_up ya s)))) (show k < 7 by omega) v (b := 1) (by omega) (by decide) (by decide)
          rw [g1, g2] at gt
          unfold m_X10_leastSums_l35_2
          rw [h.1.1, if_neg (nI_ge q (by omega)), nI_dif, has10 (by omega) (by omega), if_pos c1, Option.bind_some, if_neg (by decide), nI_64 hv]
          have gt' : m_X10_gets (u10_valueDown gb (u10_valueUp ga (u10_down yb (u10_up ya s)))) (nI k) (J (v : Int)) 1 = _ := gt
          rw [gt', Option.bind_some, nI_1]
          rfl
        · show upd ga k _ p = _ ∧ upd gb k _ p = _
          by_cases w : p = k
          · rw [w, upd_at, upd_at]; exact ⟨rfl, rfl⟩
          · rw [upd_ne w, upd_ne w]; exact (all p hp).1 h1 (by omega)
        · show upd ga k _ p = _ ∧ upd gb k _ p = _
          by_cases w : p = k
          · rcases h1 with h1 | h1
            · rw [w] at h1; exact absurd c1 h1
            · omega
          · rw [upd_ne w, upd_ne w]
            exact (all p hp).2 (h1.elim Or.inl (fun h => Or.inr (by omega)))
      · refine ⟨hN A - (k + 1), (nI (k + 1), ya, yb, ga, gb), ?_, by omega, k + 1, by omega, rfl, rfl, fun p hp => ⟨fun h1 h2 => ?_, fun h1 => ?_⟩⟩
        · unfold m_X10_leastSums_l35_2
          rw [h.1.1, if_neg (nI_ge q (by omega)), nI_dif, has10 (by omega) (by omega), if_neg c1, Option.bind_some, if_pos rfl, nI_1]
        · show ga p = _ ∧ gb p = _
          rcases Nat.lt_or_ge p k with w | w
          · exact (all p hp).1 h1 w
          · rw [show p = k by omega] at h1
            exact absurd h1 c1
        · exact (all p hp).2 (h1.elim Or.inl (fun h => Or.inr (by omega)))
    · refine Or.inr ⟨(ya, yb, ga, gb), ?_, fun p hp => ⟨fun h1 => (all p hp).1 h1 (by omega), fun h1 => (all p hp).2 (Or.inl h1)⟩⟩
      unfold m_X10_leastSums_l35_2
      rw [h.1.1, if_pos (nI_le q (by omega))]) ⟨0, Nat.zero_le _, rfl, rfl, fun p hp => ⟨fun _ h => absurd h (Nat.not_lt_zero p), fun _ => ⟨rfl, rfl⟩⟩⟩ (by omega)
  exact ⟨r.1, r.2.1, r.2.2.1, r.2.2.2, e, q⟩
theorem sums10 {s : T10} {A : Sh} {W : Nat} (hok : okS A) (h : SR s A W) : ∃ r, m_X10_leastSums s = some r ∧ ∃ u, Sp1 A W u ∧ Eqn r.2.2.1 u (hN A) ∧ Eqn r.2.2.2 (fun _ => 1) (hN A) := by
  have n7 := hok.1.1
  have p7 := pow_le7 n7
  have al := allS_lt A
  obtain ⟨r, e, u, q1, q2, q3⟩ := lp_invf (f := fun z : Int32 × Int32 × Int64 × Int64 × (Nat → Int32) × (Nat → Int32) => m_X10_leastSums_l11 s z.1 z.2.1 z.2.2.1 z.2.2.2.1 z.2.2.2.2.1 z.2.2.2.2.2) (I := fun c z => ∃ R v u, c = 119 - v ∧ v ≤ 119 ∧ z.1 = nI R ∧ z.2.1 = nI v ∧ R < 2 ^ hN A ∧ GA A W R v u ∧ (∀ p, p < hN A → ¬ R.testBit p = true → z.2.2.2.2.1 p = nI (u p) ∧ z.2.2.2.2.2 p = 1)) (Q := fun r => ∃ u, Sp1 A W u ∧ Eqn r.2.2.1 u (hN A) ∧ Eqn r.2.2.2 (fun _ => 1) (hN A)) (d := 119) (s := (nI (allS A), (0 : Int32), p10_up s, p10_down s, p10_valueUp s, p10_valueDown s)) (by
    rintro c ⟨z1, z2, za, zb, fa, fb⟩ ⟨R, v, u, hc, hv, rfl, rfl, hR, g, all⟩
    simp only at all ⊢
    by_cases c0 : R = 0
    · have ok : ∀ p, ¬ R.testBit p = true := fun p => by rw [c0, Nat.zero_testBit]; decide
      refine Or.inr ⟨(za, zb, fa, fb), ?_, u, GA_end (by rw [c0] at g; exact g) hv, fun p hp => (all p hp (ok p)).1, fun p hp => (all p hp (ok p)).2⟩
      unfold m_X10_leastSums_l11
      rw [c0, if_pos (show nI 0 = 0 from rfl)]
    · have n0 : ¬ nI R = 0 := fun x => c0 (nI_inj (b := 0) (by omega) (by decide) x)
      have v9 : v < 119 := by
        rcases Nat.lt_or_ge v 119 with w | w
        · exact w
        · exact absurd (GA_top hok g (fun p hp => by have := mkA_le hok hp; omega)) c0
      have h' := SR_v h za zb fa fb
      refine Or.inl ?_
      rcases isMark10 h'.1 hok (v := v) (by omega) with ⟨m1, m2⟩ | ⟨m1, m2⟩
      · obtain ⟨T, t1, t2⟩ := above10 hok h' (v := v) (by omega)
        have tl := lt_of_sub t2.1
        have bits : ∀ p, (dif R (dif (allS A) T)).testBit p = true ↔ R.testBit p = true ∧ T.testBit p = true := by
          intro p
          have := g.1 p
          simp only [dif_bitp]
          by_cases k1 : R.testBit p = true <;> by_cases k2 : T.testBit p = true <;> by_cases k3 : (allS A).testBit p = true <;> simp [k1, k2, k3] at this ⊢
        have rest : R &&& dif (allS A) T = dif R T := Nat.eq_of_testBit_eq fun i => by
          have := g.1 i
          rw [Nat.testBit_and, dif_bit, dif_bit]
          cases k1 : R.testBit i <;> cases k3 : (allS A).testBit i <;> simp [k1, k3] at this ⊢
        obtain ⟨ya, yb, ga, gb, y1, y2⟩ := getSum10 hok h (R := R) (M := dif (allS A) T) (v := v) hR (by omega) za zb fa fb
        refine ⟨119 - (v + 1), (nI (dif R T), nI (v + 1), ya, yb, ga, gb), ?_, by omega, dif R T, v + 1, fun p => if R.testBit p = true then v else u p, rfl, by omega, rfl, rfl, dif_lt hR, GA_full g t2 (fun p hp h => if_neg h) (fun p hp h _ => if_pos h), fun p hp h => ?_⟩
        · unfold m_X10_leastSums_l11
          rw [if_neg n0, m1, Option.bind_some, if_neg (by decide), t1, Option.bind_some, y1, Option.bind_some, nI_and, rest, nI_1]
        · show ga p = nI (if R.testBit p = true then v else u p) ∧ gb p = 1
          by_cases k : R.testBit p = true
          · have kt : T.testBit p = true := Classical.byContradiction fun x => h (dif_bitp.mpr ⟨k, x⟩)
            rw [if_pos k]
            exact (y2 p hp).1 ((bits p).mpr ⟨k, kt⟩)
          · rw [if_neg k, ((y2 p hp).2 (fun x => k ((bits p).mp x).1)).1, ((y2 p hp).2 (fun x => k ((bits p).mp x).1)).2]
            exact all p hp k
      · refine ⟨119 - (v + 1), (nI R, nI (v + 1), za, zb, fa, fb), ?_, by omega, R, v + 1, u, rfl, by omega, rfl, rfl, hR, GA_skip g m2, all⟩
        unfold m_X10_leastSums_l11
        rw [if_neg n0, m1, Option.bind_some, if_pos rfl, nI_1]) ⟨allS A, 0, fun _ => 0, rfl, by omega, rfl, rfl, al, GA_zero hok W _, fun p hp h => absurd (allS_bit.mpr hp) h⟩ (by omega)
  refine ⟨(r.1, r.2.1, r.2.2.1, r.2.2.2), ?_, u, q1, q2, q3⟩
  unfold m_X10_leastSums
  rw [h.1.1, nI_shl1 _ (by omega), nI_pred_of (Nat.two_pow_pos _), Option.bind_some, e, Option.bind_some]
