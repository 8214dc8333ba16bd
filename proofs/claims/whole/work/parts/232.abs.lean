/-! the class by ABSOLUTE -/
theorem zI_sub (a b : Int) : zI a - zI b = zI (a - b) := (Int32.ofInt_sub a b).symm
theorem zI_mul (a b : Int) : zI a * zI b = zI (a * b) := (Int32.ofInt_mul a b).symm
theorem zI_int {a : Int} (h1 : -2147483648 ≤ a) (h2 : a < 2147483648) : (zI a).toInt = a := Int32.toInt_ofInt_of_le (by omega) (by omega)
theorem zI_lt {a b : Int} (h1 : -2147483648 ≤ a) (h2 : a < 2147483648) (k1 : -2147483648 ≤ b) (k2 : b < 2147483648) : zI a < zI b ↔ a < b := by
  rw [i_lt, zI_int h1 h2, zI_int k1 k2]
theorem zI_le {a b : Int} (h1 : -2147483648 ≤ a) (h2 : a < 2147483648) (k1 : -2147483648 ≤ b) (k2 : b < 2147483648) : zI a ≤ zI b ↔ a ≤ b := by
  rw [i_le, zI_int h1 h2, zI_int k1 k2]
theorem markAbove9 {s : T0} {A : Sh} (hv : SV8 (p0_values s) A) (hok : okS A) (x : Int32) : (m_X0_leastMarkAbove s x = some x ∧ ∀ p, p < hN A → (mkA A p : Int) ≤ x.toInt) ∨ ∃ w, m_X0_leastMarkAbove s x = some (nI w) ∧ x.toInt < w ∧ w ≤ 118 ∧ (∃ p, p < hN A ∧ mkA A p = w) ∧ ∀ p, p < hN A → x.toInt < mkA A p → w ≤ mkA A p := by
  have n7 := hok.1.1
  obtain ⟨r, e, q⟩ := lp_invf (f := fun z : Int32 × Int32 => m_X0_leastMarkAbove_l4 s x z.1 z.2) (I := fun d z => ∃ k, k ≤ hN A ∧ d = hN A - k ∧ z.2 = nI k ∧ ((z.1 = x ∧ ∀ p, p < k → (mkA A p : Int) ≤ x.toInt) ∨ ∃ w, z.1 = nI w ∧ x.toInt < w ∧ w ≤ 118 ∧ (∃ p, p < hN A ∧ mkA A p = w) ∧ ∀ p, p < k → x.toInt < mkA A p → w ≤ mkA A p)) (Q := fun r => (r = x ∧ ∀ p, p < hN A → (mkA A p : Int) ≤ x.toInt) ∨ ∃ w, r = nI w ∧ x.toInt < w ∧ w ≤ 118 ∧ (∃ p, p < hN A ∧ mkA A p = w) ∧ ∀ p, p < hN A → x.toInt < mkA A p → w ≤ mkA A p) (d := hN A) (s := (x, (0 : Int32))) (by
    rintro d ⟨z1, z2⟩ ⟨k, hk, hd, rfl, inv⟩
    simp only at inv ⊢
    rcases Nat.lt_or_ge k (hN A) with q | q
    · have m1 := mkA_le hok q
      refine Or.inl ?_
      have go : m_X0_leastMarkAbove_l4 s x z1 (nI k) = if (mkA A k : Int) ≤ x.toInt then some (.inl (z1, nI (k + 1))) else if z1 = x then some (.inl (nI (mkA A k), nI (k + 1))) else if z1 ≤ nI (mkA A k) then some (.inl (z1, nI (k + 1))) else some (.inl (nI (mkA A k), nI (k + 1))) := by
        unfold m_X0_leastMarkAbove_l4 m_X8_paperCount
        rw [Option.bind_some, hv.2.2.2, if_neg (nI_ge q (by omega)), markAt8 hv hok q, Option.bind_some, nI_1]
        by_cases c : (mkA A k : Int) ≤ x.toInt
        · rw [if_pos c, if_pos (by rw [i_le, nI_toInt (by omega)]; exact c)]
        · rw [if_neg c, if_neg (by rw [i_le, nI_toInt (by omega)]; exact c)]
      rw [go]
      by_cases c : (mkA A k : Int) ≤ x.toInt
      · rw [if_pos c]
        refine ⟨hN A - (k + 1), _, rfl, by omega, k + 1, by omega, rfl, rfl, ?_⟩
        rcases inv with ⟨i1, i2⟩ | ⟨w, i1, i2, i3, i4, i5⟩
        · refine Or.inl ⟨i1, fun p hp => ?_⟩
          rcases Nat.lt_or_ge p k with y | y
          · exact i2 p y
          · rw [show p = k by omega]; exact c
        · refine Or.inr ⟨w, i1, i2, i3, i4, fun p hp hx => ?_⟩
          rcases Nat.lt_or_ge p k with y | y
          · exact i5 p y hx
          · rw [show p = k by omega] at hx; omega
      · rw [if_neg c]
        rcases inv with ⟨i1, i2⟩ | ⟨w, i1, i2, i3, i4, i5⟩
        · rw [if_pos i1]
          refine ⟨hN A - (k + 1), _, rfl, by omega, k + 1, by omega, rfl, rfl, Or.inr ⟨mkA A k, rfl, by omega, m1, ⟨k, q, rfl⟩, fun p hp hx => ?_⟩⟩
          rcases Nat.lt_or_ge p k with y | y
          · have := i2 p y; omega
          · rw [show p = k by omega]; exact Nat.le_refl _
        · have ne : ¬ z1 = x := fun h => by
            rw [← h, i1, nI_toInt (by omega)] at i2
            omega
          rw [if_neg ne]
          by_cases c2 : w ≤ mkA A k
          · rw [if_pos (by rw [i1]; exact (nI_lei (by omega) (by omega)).mpr c2)]
            refine ⟨hN A - (k + 1), _, rfl, by omega, k + 1, by omega, rfl, rfl, Or.inr ⟨w, i1, i2, i3, i4, fun p hp hx => ?_⟩⟩
            rcases Nat.lt_or_ge p k with y | y
            · exact i5 p y hx
            · rw [show p = k by omega]; exact c2
          · rw [if_neg (by rw [i1]; exact fun h => c2 ((nI_lei (by omega) (by omega)).mp h))]
            refine ⟨hN A - (k + 1), _, rfl, by omega, k + 1, by omega, rfl, rfl, Or.inr ⟨mkA A k, rfl, by omega, m1, ⟨k, q, rfl⟩, fun p hp hx => ?_⟩⟩
            rcases Nat.lt_or_ge p k with y | y
            · have := i5 p y hx; omega
            · rw [show p = k by omega]; exact Nat.le_refl _
    · refine Or.inr ⟨z1, ?_, ?_⟩
      · unfold m_X0_leastMarkAbove_l4 m_X8_paperCount
        rw [Option.bind_some, hv.2.2.2, if_pos (nI_le q (by omega))]
      · rcases inv with ⟨i1, i2⟩ | ⟨w, i1, i2, i3, i4, i5⟩
        · exact Or.inl ⟨i1, fun p hp => i2 p (by omega)⟩
        · exact Or.inr ⟨w, i1, i2, i3, i4, fun p hp => i5 p (by omega)⟩) ⟨0, Nat.zero_le _, rfl, rfl, Or.inl ⟨rfl, fun p hp => absurd hp (Nat.not_lt_zero p)⟩⟩ (by omega)
  unfold m_X0_leastMarkAbove
  rw [e, Option.bind_some]
  rcases q with ⟨q1, q2⟩ | ⟨w, q1, q2⟩
  · exact Or.inl ⟨by rw [q1], q2⟩
  · exact Or.inr ⟨w, by rw [q1], q2⟩
theorem gv_sum (A : Sh) (v S : Nat) : sI (gv A (v + 1)) S (hN A) = (wtS A S : Int) - 2 * (wtS A (S &&& upto A v) : Int) := by
  have e1 := sI_dif (gv A (v + 1)) S (upto A v) (hN A)
  have e2 := sI_dif (fun p => (wtA A p : Int)) S (upto A v) (hN A)
  rw [← wtS_I, ← wtS_I] at e2
  have e3 : sI (gv A (v + 1)) (S &&& upto A v) (hN A) = -1 * sI (fun p => (wtA A p : Int)) (S &&& upto A v) (hN A) + 0 * sI (fun p => (wtA A p : Int)) (S &&& upto A v) (hN A) := by
    rw [← sI_lin]
    refine sI_congr (fun i hi => ⟨Iff.rfl, fun h => ?_⟩)
    have h2 := (and_bit.mp h).2
    unfold upto at h2
    rw [bs_bit, Bool.and_eq_true, decide_eq_true_iff, decide_eq_true_iff] at h2
    unfold gv
    rw [if_pos (by omega)]
    omega
  have e4 : sI (gv A (v + 1)) (dif S (upto A v)) (hN A) = sI (fun p => (wtA A p : Int)) (dif S (upto A v)) (hN A) := by
    refine sI_congr (fun i hi => ⟨Iff.rfl, fun h => ?_⟩)
    have h2 := (dif_bitp.mp h).2
    unfold upto at h2
    rw [bs_bit, Bool.and_eq_true, decide_eq_true_iff, decide_eq_true_iff] at h2
    unfold gv
    rw [if_neg (fun k => h2 ⟨hi, by omega⟩)]
  rw [← wtS_I] at e3
  omega
theorem cheapest9 {s : T0} {A : Sh} {W : Nat} (hok : okS A) (t2 : Eqn (p0_weighs s) (wtS A) (2 ^ hN A)) (t3 : SD (p0_downs s) A W (2 ^ hN A)) {R v : Nat} (hR : R < 2 ^ hN A) : ∃ B, m_X0_cheapest s (nI (upto A v)) (nI R) = some (nI B) ∧ isT A W R (gv A (v + 1)) B := by
  have n7 := hok.1.1
  have p7 := pow_le7 n7
  obtain ⟨T, hT⟩ := isT_ex hok W hR (gv A (v + 1))
  have subn : ∀ b, sub ((b - 1) &&& R) R := fun b i hi => (and_bit.mp hi).2
  have rg : ∀ S, -126 ≤ sI (gv A (v + 1)) S (hN A) ∧ sI (gv A (v + 1)) S (hN A) ≤ 126 := fun S => by
    have h1 := wtS_le hok S
    have h2 := wtS_mono A (S := S &&& upto A v) (T := S) (fun i hi => (and_bit.mp hi).1)
    rw [gv_sum]
    omega
  obtain ⟨r, e, q⟩ := lp_invf (f := fun z : Int32 × Int32 × Int32 => m_X0_cheapest_l8 s (nI (upto A v)) (nI R) z.1 z.2.1 z.2.2) (I := fun d z => ∃ X L, z.1 = nI X ∧ z.2.1 = zI L ∧ z.2.2 = nI d ∧ sub d R ∧ X < 2 ^ hN A ∧ (∀ S, sub S R → low A W S R → (S = 0 ∨ d < S) → L ≤ sI (gv A (v + 1)) S (hN A)) ∧ (∃ S, sub S R ∧ low A W S R ∧ (S = 0 ∨ d < S) ∧ sI (gv A (v + 1)) S (hN A) = L) ∧ ∀ i, X.testBit i = true ↔ ∃ S, sub S R ∧ low A W S R ∧ (S = 0 ∨ d < S) ∧ sI (gv A (v + 1)) S (hN A) = L ∧ S.testBit i = true) (Q := fun r => r = nI T) (d := R) (s := ((0 : Int32), (0 : Int32), nI R)) (by
    rintro d ⟨z1, z2, z3⟩ ⟨X, L, rfl, rfl, rfl, sd, hX, le, ⟨S0, w1, w2, w3, w4⟩, bits⟩
    simp only
    have lR := sub_le sd
    have rL := rg S0
    rcases Nat.eq_zero_or_pos d with q | q
    · refine Or.inr ⟨nI X, ?_, ?_⟩
      · unfold m_X0_cheapest_l8
        rw [q, if_pos (by decide)]
      · have hL : L = sI (gv A (v + 1)) T (hN A) := by
          have a := le T hT.1 hT.2.1 (by omega)
          have b := hT.2.2.1 S0 w1 w2
          omega
        congr 1
        refine sub_eq (fun i hi => ?_) (fun i hi => ?_)
        · obtain ⟨S, a1, a2, a3, a4, a5⟩ := (bits i).mp hi
          exact hT.2.2.2 S a1 a2 (by omega) i a5
        · exact (bits i).mpr ⟨T, hT.1, hT.2.1, by omega, hL.symm, hi⟩
    · have lt : (d - 1) &&& R < d := Nat.lt_of_le_of_lt Nat.and_le_left (by omega)
      have la : d &&& upto A v ≤ d := Nat.and_le_left
      have cont : ∀ S, sub S R → (S = 0 ∨ (d - 1) &&& R < S) → S = d ∨ (S = 0 ∨ d < S) := by
        intro S h1 h2
        rcases h2 with h2 | h2
        · exact Or.inr (Or.inl h2)
        · rcases Nat.lt_or_ge S d with w | w
          · have := sub_next (hN A) R d S (by omega) sd h1 w
            omega
          · omega
      have back : ∀ S, (S = 0 ∨ d < S) → (S = 0 ∨ (d - 1) &&& R < S) := fun S h => h.elim Or.inl (fun h => Or.inr (by omega))
      have rd := rg d
      have go : m_X0_cheapest_l8 s (nI (upto A v)) (nI R) (nI X) (zI L) (nI d) = if L < sI (gv A (v + 1)) d (hN A) then some (.inl (nI X, zI L, nI ((d - 1) &&& R))) else (m_X0_isLow s (nI d) (nI R)).bind fun x10 => if x10 = 0 then some (.inl (nI X, zI L, nI ((d - 1) &&& R))) else if L ≤ sI (gv A (v + 1)) d (hN A) then some (.inl (nI (X ||| d), zI (sI (gv A (v + 1)) d (hN A)), nI ((d - 1) &&& R))) else some (.inl (nI d, zI (sI (gv A (v + 1)) d (hN A)), nI ((d - 1) &&& R))) := by
        unfold m_X0_cheapest_l8
        rw [if_neg (show ¬ nI d ≤ 0 by rw [i_le, nI_toInt (by omega), z32]; omega), next9 q, get_in (by omega) (by decide), Option.bind_some, t2 d (by omega), nI_and, get_in (by omega) (by decide), Option.bind_some, t2 (d &&& upto A v) (by omega), nI_or, ← zI_nat (wtS A d), ← zI_nat (wtS A (d &&& upto A v)), show (2 : Int32) = zI 2 from rfl, zI_mul, zI_sub, ← gv_sum]
        by_cases c : L < sI (gv A (v + 1)) d (hN A)
        · rw [if_pos c, if_pos ((zI_lt (by omega) (by omega) (by omega) (by omega)).mpr c)]
        · rw [if_neg c, if_neg (fun k => c ((zI_lt (by omega) (by omega) (by omega) (by omega)).mp k))]
          congr 1
          funext x10
          by_cases c2 : L ≤ sI (gv A (v + 1)) d (hN A)
          · rw [if_pos c2, if_pos ((zI_le (by omega) (by omega) (by omega) (by omega)).mpr c2), Option.bind_some]
          · rw [if_neg c2, if_neg (fun k => c2 ((zI_le (by omega) (by omega) (by omega) (by omega)).mp k)), Option.bind_some]
      rw [go]
      have keep : (∀ S, sub S R → low A W S R → S = d → L < sI (gv A (v + 1)) S (hN A)) → ∃ X' L', (nI X = nI X' ∧ zI L = zI L' ∧ nI ((d - 1) &&& R) = nI ((d - 1) &&& R) ∧ sub ((d - 1) &&& R) R ∧ X' < 2 ^ hN A ∧ (∀ S, sub S R → low A W S R → (S = 0 ∨ (d - 1) &&& R < S) → L' ≤ sI (gv A (v + 1)) S (hN A)) ∧ (∃ S, sub S R ∧ low A W S R ∧ (S = 0 ∨ (d - 1) &&& R < S) ∧ sI (gv A (v + 1)) S (hN A) = L') ∧ ∀ i, X'.testBit i = true ↔ ∃ S, sub S R ∧ low A W S R ∧ (S = 0 ∨ (d - 1) &&& R < S) ∧ sI (gv A (v + 1)) S (hN A) = L' ∧ S.testBit i = true) := by
        intro no
        refine ⟨X, L, rfl, rfl, rfl, subn d, hX, fun S a1 a2 a3 => ?_, ⟨S0, w1, w2, back S0 w3, w4⟩, fun i => ?_⟩
        · rcases cont S a1 a3 with k | k
          · exact Int.le_of_lt (no S a1 a2 k)
          · exact le S a1 a2 k
        · rw [bits i]
          constructor
          · rintro ⟨S, a1, a2, a3, a4, a5⟩
            exact ⟨S, a1, a2, back S a3, a4, a5⟩
          · rintro ⟨S, a1, a2, a3, a4, a5⟩
            rcases cont S a1 a3 with k | k
            · have := no S a1 a2 k
              omega
            · exact ⟨S, a1, a2, k, a4, a5⟩
      by_cases c : L < sI (gv A (v + 1)) d (hN A)
      · rw [if_pos c]
        exact Or.inl ⟨_, _, rfl, lt, keep (fun S _ _ k => by rw [k]; exact c)⟩
      · rw [if_neg c]
        rcases isLow9 t3 hok (B := d) (R := R) (by omega) hR with ⟨l1, l2⟩ | ⟨l1, l2⟩
        · rw [l1, Option.bind_some, if_neg (by decide)]
          by_cases c2 : L ≤ sI (gv A (v + 1)) d (hN A)
          · rw [if_pos c2]
            have eL : sI (gv A (v + 1)) d (hN A) = L := by omega
            refine Or.inl ⟨_, _, rfl, lt, X ||| d, L, rfl, by rw [eL], rfl, subn d, or_lt hX (by omega), fun S a1 a2 a3 => ?_, ⟨S0, w1, w2, back S0 w3, w4⟩, fun i => ?_⟩
            · rcases cont S a1 a3 with k | k
              · rw [k]; omega
              · exact le S a1 a2 k
            · rw [or_bit, bits i]
              constructor
              · rintro (⟨S, a1, a2, a3, a4, a5⟩ | a)
                · exact ⟨S, a1, a2, back S a3, a4, a5⟩
                · exact ⟨d, sd, l2, Or.inr lt, eL, a⟩
              · rintro ⟨S, a1, a2, a3, a4, a5⟩
                rcases cont S a1 a3 with k | k
                · rw [k] at a5; exact Or.inr a5
                · exact Or.inl ⟨S, a1, a2, k, a4, a5⟩
          · rw [if_neg c2]
            refine Or.inl ⟨_, _, rfl, lt, d, sI (gv A (v + 1)) d (hN A), rfl, rfl, rfl, subn d, by omega, fun S a1 a2 a3 => ?_, ⟨d, sd, l2, Or.inr lt, rfl⟩, fun i => ?_⟩
            · rcases cont S a1 a3 with k | k
              · rw [k]; exact Int.le_refl _
              · have := le S a1 a2 k
                omega
            · constructor
              · intro a
                exact ⟨d, sd, l2, Or.inr lt, rfl, a⟩
              · rintro ⟨S, a1, a2, a3, a4, a5⟩
                rcases cont S a1 a3 with k | k
                · rw [k] at a5; exact a5
                · have := le S a1 a2 k
                  omega
        · rw [l1, Option.bind_some, if_pos rfl]
          exact Or.inl ⟨_, _, rfl, lt, keep (fun S _ a2 k => by rw [k] at a2; exact absurd a2 l2)⟩) ⟨0, 0, rfl, rfl, rfl, fun i hi => hi, Nat.two_pow_pos _, fun S a1 _ a3 => by
        rcases a3 with a3 | a3
        · rw [a3, sI_zero]; exact Int.le_refl _
        · have := sub_le a1; omega, ⟨0, sub_zero R, low_zero A W R, Or.inl rfl, sI_zero _ _⟩, fun i => by
        rw [Nat.zero_testBit]
        constructor
        · intro h; cases h
        · rintro ⟨S, a1, a2, a3, a4, a5⟩
          rcases a3 with a3 | a3
          · rw [a3, Nat.zero_testBit] at a5; exact a5
          · have := sub_le a1; omega⟩ (by omega)
  refine ⟨T, ?_, hT⟩
  unfold m_X0_cheapest
  rw [e, Option.bind_some, q]
theorem GA_skips {A : Sh} {W R : Nat} {u : Nat → Nat} {a b : Nat} (g : GA A W R a u) (hab : a ≤ b) (h : ∀ p, p < hN A → ¬ (a ≤ mkA A p ∧ mkA A p < b)) : GA A W R b u := by
  induction b with
  | zero => rw [show a = 0 by omega] at g; exact g
  | succ b ih =>
    rcases Nat.lt_or_ge a (b + 1) with q | q
    · have g2 := ih (by omega) (fun p hp k => h p hp ⟨k.1, by omega⟩)
      exact GA_skip g2 (fun p hp k => h p hp ⟨by omega, by omega⟩)
    · rw [show a = b + 1 by omega] at g; exact g
theorem isT_neg {A : Sh} {W R : Nat} {f : Nat → Int} (h : ∀ p, p < hN A → f p ≤ 0) : isT A W R f R := by
  refine ⟨fun i hi => hi, low_self A W R, fun S h1 _ => ?_, fun S h1 _ _ => h1⟩
  have e := sI_dif f R S (hN A)
  have e2 : R &&& S = S := sub_eq (fun i hi => (and_bit.mp hi).2) (fun i hi => and_bit.mpr ⟨h1 i hi, hi⟩)
  have e3 := sI_nonpos (f := f) (S := dif R S) (n := hN A) (fun i hi _ => h i hi)
  rw [e2] at e
  omega
/-- how many marks there are from v on -/
def cge (A : Sh) (v : Nat) : Nat := sm (fun p => if v ≤ mkA A p then 1 else 0) (hN A)
theorem cge_le (A : Sh) (v : Nat) : cge A v ≤ hN A := by
  have : cge A v ≤ sm (fun _ => 1) (hN A) := sm_le (fun i _ => by split <;> omega)
  rw [sm_const] at this
  omega
theorem cge_lt {A : Sh} {v w p : Nat} (hp : p < hN A) (h : mkA A p = v) (hw : v < w) : cge A w < cge A v := by
  refine sm_lt (i := p) (fun j _ => ?_) hp ?_
  · by_cases c : w ≤ mkA A j
    · rw [if_pos c, if_pos (by omega)]; exact Nat.le_refl _
    · rw [if_neg c]; exact Nat.zero_le _
  · rw [if_neg (by omega), if_pos (by omega)]
    exact Nat.zero_lt_one
theorem cge_pos {A : Sh} {v p : Nat} (hp : p < hN A) (h : mkA A p = v) : 0 < cge A v := by
  have := cge_lt hp h (Nat.lt_succ_self v)
  omega
