/-! BY SQUARE: the greedy way is the least one, told by thresholds -/
abbrev allS (A : Sh) : Nat := 2 ^ hN A - 1
theorem allS_bit {A : Sh} {i : Nat} : (allS A).testBit i = true ↔ i < hN A := by
  rw [Nat.testBit_two_pow_sub_one, decide_eq_true_iff]
theorem sub_all {A : Sh} {S : Nat} (h : S < 2 ^ hN A) : sub S (allS A) := fun i hi => allS_bit.mpr (bit_lt h hi)
theorem allS_lt (A : Sh) : allS A < 2 ^ hN A := by
  have := Nat.two_pow_pos (hN A)
  show 2 ^ hN A - 1 < 2 ^ hN A
  omega
theorem lt_of_sub {A : Sh} {S : Nat} (h : sub S (allS A)) : S < 2 ^ hN A := sub_lt h (allS_lt A)
def minq (A : Sh) (W R B : Nat) : Prop := sub B R ∧ B ≠ 0 ∧ low A W B R ∧ ∀ S, sub S R → S ≠ 0 → low A W S R → suS A B * wtS A S ≤ suS A S * wtS A B
def bestq (A : Sh) (W R B : Nat) : Prop := sub B R ∧ B ≠ 0 ∧ low A W B R ∧ ∀ S, sub S R → S ≠ 0 → low A W S R → suS A B * wtS A S ≤ suS A S * wtS A B ∧ (suS A B * wtS A S = suS A S * wtS A B → sub S B)
theorem minq_or {A : Sh} {W R B S : Nat} (h : minq A W R B) (h1 : sub S R) (h2 : S ≠ 0) (h3 : low A W S R) (e : suS A B * wtS A S = suS A S * wtS A B) : suS A B * wtS A (S ||| B) = suS A (S ||| B) * wtS A B := by
  obtain ⟨b1, b2, b3, b4⟩ := h
  have key : ∀ X, sub X R → low A W X R → 0 ≤ sI (FF A (suS A B) (wtS A B)) X (hN A) := by
    intro X x1 x2
    rw [FF_sum]
    by_cases c : X = 0
    · have z1 : (wtS A X : Int) = 0 := by rw [wtS_I, c, sI_zero]
      have z2 : (suS A X : Int) = 0 := by rw [suS_I, c, sI_zero]
      rw [z1, z2]
      simp
    · have := b4 X x1 c x2
      rw [Int.mul_comm (wtS A B : Int), ← Int.natCast_mul, ← Int.natCast_mul]
      omega
  have k1 := key (S ||| B) (sub_or h1 b1) (low_or h3 b3)
  have k2 := key (S &&& B) (sub_and h1) (low_and h3 b3)
  have k3 := sI_or (FF A (suS A B) (wtS A B)) S B (hN A)
  rw [FF_sum] at k1 k2
  rw [FF_sum, FF_sum, FF_sum, FF_sum] at k3
  have e2 : ((suS A B * wtS A S : Nat) : Int) = ((suS A S * wtS A B : Nat) : Int) := by rw [e]
  rw [Int.natCast_mul, Int.natCast_mul, Int.mul_comm (suS A S : Int)] at e2
  have e3 : (wtS A B : Int) * (suS A B : Int) = (suS A B : Int) * (wtS A B : Int) := Int.mul_comm _ _
  have e4 : (suS A B : Int) * (wtS A (S ||| B) : Int) = (suS A (S ||| B) : Int) * (wtS A B : Int) := by
    rw [Int.mul_comm (suS A (S ||| B) : Int)]
    omega
  exact Int.ofNat_inj.mp (by rw [Int.natCast_mul, Int.natCast_mul]; exact e4)
theorem best_num {A : Sh} {W R B : Nat} (h : minq A W R B) (k : ∀ S, sub S R → S ≠ 0 → low A W S R → suS A B * wtS A S = suS A S * wtS A B → S ≤ B) : bestq A W R B := by
  refine ⟨h.1, h.2.1, h.2.2.1, fun S h1 h2 h3 => ⟨h.2.2.2 S h1 h2 h3, fun e => ?_⟩⟩
  have nz : S ||| B ≠ 0 := fun q => by
    obtain ⟨i, hi⟩ := bit_of_ne0 h2
    have : (S ||| B).testBit i = true := or_bit.mpr (Or.inl hi)
    rw [q, Nat.zero_testBit] at this
    cases this
  have := k (S ||| B) (sub_or h1 h.1) nz (low_or h3 h.2.2.1) (minq_or h h1 h2 h3 e)
  have s2 : sub B (S ||| B) := fun i hi => or_bit.mpr (Or.inr hi)
  have e2 : S ||| B = B := Nat.le_antisymm this (sub_le s2)
  exact fun i hi => by rw [← e2]; exact or_bit.mpr (Or.inl hi)
theorem pcn_sub {S T : Nat} (hT : T < 128) (h : sub S T) (k : pcn T ≤ pcn S) : sub T S := by
  intro i hi
  refine Classical.byContradiction fun c => ?_
  have h7 : i < 7 := bit_lt (n := 7) hT hi
  have := sm_lt (g := fun i => if S.testBit i = true then 1 else 0) (h := fun i => if T.testBit i = true then 1 else 0) (n := 7) (i := i) (fun j _ => by
    by_cases q : S.testBit j = true
    · rw [if_pos q, if_pos (h j q)]; exact Nat.le_refl _
    · rw [if_neg q]; exact Nat.zero_le _) h7 (by rw [if_neg c, if_pos hi]; exact Nat.zero_lt_one)
  unfold pcn at k
  omega
theorem best_cnt {A : Sh} {W R B : Nat} (hR : R < 128) (h : minq A W R B) (k : ∀ S, sub S R → S ≠ 0 → low A W S R → suS A B * wtS A S = suS A S * wtS A B → pcn S ≤ pcn B) : bestq A W R B := by
  refine ⟨h.1, h.2.1, h.2.2.1, fun S h1 h2 h3 => ⟨h.2.2.2 S h1 h2 h3, fun e => ?_⟩⟩
  have nz : S ||| B ≠ 0 := fun q => by
    obtain ⟨i, hi⟩ := bit_of_ne0 h2
    have : (S ||| B).testBit i = true := or_bit.mpr (Or.inl hi)
    rw [q, Nat.zero_testBit] at this
    cases this
  have := k (S ||| B) (sub_or h1 h.1) nz (low_or h3 h.2.2.1) (minq_or h h1 h2 h3 e)
  have s2 : sub B (S ||| B) := fun i hi => or_bit.mpr (Or.inr hi)
  have s3 := pcn_sub (Nat.lt_of_le_of_lt (sub_le (sub_or h1 h.1)) hR) s2 this
  exact fun i hi => s3 i (or_bit.mpr (Or.inl hi))
theorem nl_lt {x d wB wS sB sS : Nat} (hd : 1 ≤ d) (h1 : x * wB ≤ sB * d) (h2 : sB * wS < sS * wB) : x * wS < sS * d := by
  refine Nat.lt_of_mul_lt_mul_right (a := wB) ?_
  have e1 : x * wS * wB = x * wB * wS := Nat.mul_right_comm _ _ _
  have e2 : x * wB * wS ≤ sB * d * wS := Nat.mul_le_mul_right _ h1
  have e3 : sB * d * wS = sB * wS * d := Nat.mul_right_comm _ _ _
  have e4 : sB * wS * d < sS * wB * d := Nat.mul_lt_mul_of_pos_right h2 hd
  have e5 : sS * wB * d = sS * d * wB := Nat.mul_right_comm _ _ _
  omega
theorem nl_thr {u d c b sB wB : Nat} (hw : 0 < wB) (h1 : u * wB ≤ sB * d) (h2 : sB * b ≤ c * wB) : u * b ≤ c * d := by
  refine Nat.le_of_mul_le_mul_right (c := wB) ?_ hw
  have e1 : u * b * wB = u * wB * b := Nat.mul_right_comm _ _ _
  have e2 : u * wB * b ≤ sB * d * b := Nat.mul_le_mul_right _ h1
  have e3 : sB * d * b = sB * b * d := Nat.mul_right_comm _ _ _
  have e4 : sB * b * d ≤ c * wB * d := Nat.mul_le_mul_right _ h2
  have e5 : c * wB * d = c * d * wB := Nat.mul_right_comm _ _ _
  omega
theorem nl_nthr {u d c b sB wB : Nat} (hd : 1 ≤ d) (h1 : u * wB = sB * d) (h2 : c * wB < sB * b) : c * d < u * b := by
  refine Nat.lt_of_mul_lt_mul_right (a := wB) ?_
  have e1 : u * b * wB = u * wB * b := Nat.mul_right_comm _ _ _
  have e2 : u * wB * b = sB * d * b := by rw [h1]
  have e3 : sB * d * b = sB * b * d := Nat.mul_right_comm _ _ _
  have e4 : c * wB * d < sB * b * d := Nat.mul_lt_mul_of_pos_right h2 hd
  have e5 : c * wB * d = c * d * wB := Nat.mul_right_comm _ _ _
  omega
theorem nl_in {b c sB wB sX wX : Nat} (hw : 0 < wB) (h1 : sB * wX ≤ sX * wB) (h2 : sB * b ≤ c * wB) (h3 : wX ≤ wB) : b * sB + c * wX ≤ b * sX + c * wB := by
  obtain ⟨k, rfl⟩ : ∃ k, wB = wX + k := ⟨wB - wX, by omega⟩
  have key : b * sB ≤ b * sX + c * k := by
    refine Nat.le_of_mul_le_mul_right (c := wX + k) ?_ hw
    have e1 : b * sB * (wX + k) = b * (sB * wX) + sB * b * k := by rw [Nat.mul_add, Nat.mul_assoc, Nat.mul_comm b sB]
    have e2 : b * (sB * wX) ≤ b * (sX * (wX + k)) := Nat.mul_le_mul_left _ h1
    have e3 : sB * b * k ≤ c * (wX + k) * k := Nat.mul_le_mul_right _ h2
    have e4 : (b * sX + c * k) * (wX + k) = b * (sX * (wX + k)) + c * (wX + k) * k := by rw [Nat.add_mul, Nat.mul_assoc, Nat.mul_right_comm c k]
    omega
  rw [Nat.mul_add]
  omega
theorem nl_out {b c sB wB sX wX : Nat} (h1 : sB * wX ≤ sX * wB) (h2 : c * wB < sB * b) (h3 : 0 < wX) : c * wX < b * sX := by
  refine Nat.lt_of_mul_lt_mul_right (a := wB) ?_
  have e1 : c * wX * wB = c * wB * wX := Nat.mul_right_comm _ _ _
  have e2 : c * wB * wX < sB * b * wX := Nat.mul_lt_mul_of_pos_right h2 h3
  have e3 : sB * b * wX = sB * wX * b := Nat.mul_right_comm _ _ _
  have e4 : sB * wX * b ≤ sX * wB * b := Nat.mul_le_mul_right _ h1
  have e5 : sX * wB * b = b * sX * wB := by rw [Nat.mul_right_comm, Nat.mul_comm sX b]
  omega
def thr0 (A : Sh) (u d : Nat → Nat) (R c b : Nat) : Nat := bs (fun p => !R.testBit p && decide (u p * b ≤ c * d p)) (hN A)
theorem thr0_bit {A : Sh} {u d : Nat → Nat} {R c b p : Nat} : (thr0 A u d R c b).testBit p = true ↔ p < hN A ∧ ¬ R.testBit p = true ∧ u p * b ≤ c * d p := by
  unfold thr0
  rw [bs_bit, Bool.and_eq_true, Bool.and_eq_true, decide_eq_true_iff, decide_eq_true_iff, Bool.not_eq_true']
  cases R.testBit p <;> simp
def GI (A : Sh) (W R : Nat) (u d : Nat → Nat) : Prop := sub R (allS A) ∧ (∀ p, p < hN A → ¬ R.testBit p = true → 1 ≤ d p ∧ Nat.Coprime (u p) (d p)) ∧ low A W (dif (allS A) R) (allS A) ∧ (∀ p, p < hN A → ¬ R.testBit p = true → ∀ S, sub S R → S ≠ 0 → low A W S R → u p * wtS A S < suS A S * d p) ∧ ∀ c b : Nat, 0 < b → low A W (thr0 A u d R c b) (allS A) ∧ ∀ S, sub S (allS A) → low A W S (allS A) → sI (FF A c b) (thr0 A u d R c b) (hN A) ≤ sI (FF A c b) (S &&& dif (allS A) R) (hN A) ∧ (sI (FF A c b) (S &&& dif (allS A) R) (hN A) = sI (FF A c b) (thr0 A u d R c b) (hN A) → sub (S &&& dif (allS A) R) (thr0 A u d R c b))
theorem wtS_two {A : Sh} {S T U : Nat} (h : ∀ i, i < hN A → (U.testBit i = true ↔ S.testBit i = true ∨ T.testBit i = true) ∧ ¬ (S.testBit i = true ∧ T.testBit i = true)) : wtS A U = wtS A S + wtS A T := by
  have := sI_two (f := fun p => (wtA A p : Int)) h
  rw [← wtS_I, ← wtS_I, ← wtS_I] at this
  omega
theorem suS_two {A : Sh} {S T U : Nat} (h : ∀ i, i < hN A → (U.testBit i = true ↔ S.testBit i = true ∨ T.testBit i = true) ∧ ¬ (S.testBit i = true ∧ T.testBit i = true)) : suS A U = suS A S + suS A T := by
  have := sI_two (f := fun p => ((mkA A p * wtA A p : Nat) : Int)) h
  rw [← suS_I, ← suS_I, ← suS_I] at this
  omega
theorem GI_step {A : Sh} (hok : okS A) {W R B : Nat} {u d u' d' : Nat → Nat} (g : GI A W R u d) (hB : bestq A W R B) (k1 : ∀ p, p < hN A → ¬ R.testBit p = true → u' p = u p ∧ d' p = d p) (k2 : ∀ p, p < hN A → B.testBit p = true → 1 ≤ d' p ∧ Nat.Coprime (u' p) (d' p) ∧ u' p * wtS A B = suS A B * d' p) : GI A W (dif R B) u' d' := by
  obtain ⟨g1, g2, g3, g4, g5⟩ := g
  obtain ⟨b1, b2, b3, b4⟩ := hB
  obtain ⟨i0, hi0⟩ := bit_of_ne0 b2
  have wB : 0 < wtS A B := wtS_pos hok (allS_bit.mp (g1 _ (b1 _ hi0))) hi0
  have out : ∀ p, ¬ (dif R B).testBit p = true ↔ ¬ R.testBit p = true ∨ B.testBit p = true := by
    intro p
    rw [dif_bitp]
    by_cases c : R.testBit p = true <;> by_cases c2 : B.testBit p = true <;> simp [c, c2]
  have q2 : ∀ p, p < hN A → ¬ (dif R B).testBit p = true → 1 ≤ d' p ∧ Nat.Coprime (u' p) (d' p) := by
    intro p hp h
    by_cases c : R.testBit p = true
    · have := k2 p hp (((out p).mp h).resolve_left (fun k => k c))
      exact ⟨this.1, this.2.1⟩
    · rw [(k1 p hp c).1, (k1 p hp c).2]
      exact g2 p hp c
  have q3 : low A W (dif (allS A) (dif R B)) (allS A) := by
    intro p q hp hu hq
    rw [dif_bitp] at hp ⊢
    refine ⟨hq, ?_⟩
    rw [out] at hp ⊢
    by_cases c : R.testBit p = true
    · have hb := hp.2.resolve_left (fun k => k c)
      by_cases c2 : R.testBit q = true
      · exact Or.inr (b3 p q hb hu c2)
      · exact Or.inl c2
    · have := g3 p q (dif_bitp.mpr ⟨hp.1, c⟩) hu hq
      exact Or.inl (dif_bitp.mp this).2
  refine ⟨fun i hi => g1 i (dif_bitp.mp hi).1, q2, q3, ?_, ?_⟩
  · intro p hp h S s1 s2 s3
    have s4 : sub S R := fun i hi => (dif_bitp.mp (s1 i hi)).1
    have dj : ∀ i, i < hN A → ((S ||| B).testBit i = true ↔ S.testBit i = true ∨ B.testBit i = true) ∧ ¬ (S.testBit i = true ∧ B.testBit i = true) := fun i _ => ⟨or_bit, fun k => (dif_bitp.mp (s1 i k.1)).2 k.2⟩
    have lo : low A W (S ||| B) R := by
      intro x q hx hu hq
      rw [or_bit] at hx ⊢
      by_cases c : B.testBit q = true
      · exact Or.inr c
      · rcases hx with hx | hx
        · exact Or.inl (s3 x q hx hu (dif_bitp.mpr ⟨hq, c⟩))
        · exact Or.inr (b3 x q hx hu hq)
    have nz : S ||| B ≠ 0 := fun q => by
      have : (S ||| B).testBit i0 = true := or_bit.mpr (Or.inr hi0)
      rw [q, Nat.zero_testBit] at this
      cases this
    obtain ⟨m1, m2⟩ := b4 (S ||| B) (sub_or s4 b1) nz lo
    have strict : suS A B * wtS A S < suS A S * wtS A B := by
      have ne : ¬ suS A B * wtS A (S ||| B) = suS A (S ||| B) * wtS A B := by
        intro e
        obtain ⟨j, hj⟩ := bit_of_ne0 s2
        exact (dif_bitp.mp (s1 j hj)).2 (m2 e j (or_bit.mpr (Or.inl hj)))
      rw [wtS_two dj, suS_two dj, Nat.mul_add, Nat.add_mul] at m1 ne
      omega
    by_cases c : R.testBit p = true
    · obtain ⟨e1, e2, e3⟩ := k2 p hp (((out p).mp h).resolve_left (fun k => k c))
      exact nl_lt e1 (Nat.le_of_eq e3) strict
    · rw [(k1 p hp c).1, (k1 p hp c).2]
      exact nl_lt (g2 p hp c).1 (Nat.le_of_lt (g4 p hp c B b1 b2 b3)) strict
  · intro c b hb
    obtain ⟨t1, t2⟩ := g5 c b hb
    have split : ∀ S, sub S (allS A) → sI (FF A c b) (S &&& dif (allS A) (dif R B)) (hN A) = sI (FF A c b) (S &&& dif (allS A) R) (hN A) + sI (FF A c b) (S &&& B) (hN A) := by
      intro S hS
      refine sI_two (fun i hi => ?_)
      simp only [and_bit, dif_bitp]
      have ha : (allS A).testBit i = true := allS_bit.mpr hi
      have hr := b1 i
      by_cases c1 : S.testBit i = true <;> by_cases c2 : R.testBit i = true <;> by_cases c3 : B.testBit i = true <;> simp [c1, c2, c3, ha] at hr ⊢
    have xs : ∀ S, low A W S (allS A) → sub (S &&& B) R ∧ low A W (S &&& B) R := by
      intro S hS
      refine ⟨fun i hi => b1 i (and_bit.mp hi).2, fun p q hp hu hq => ?_⟩
      rw [and_bit] at hp ⊢
      exact ⟨hS p q hp.1 hu (g1 q hq), b3 p q hp.2 hu hq⟩
    by_cases hm : suS A B * b ≤ c * wtS A B
    · -- all up to here are below c / b
      have eT : thr0 A u d R c b = dif (allS A) R := sub_eq (fun i hi => by
        rw [thr0_bit] at hi
        exact dif_bitp.mpr ⟨allS_bit.mpr hi.1, hi.2.1⟩) (fun i hi => by
        rw [dif_bitp, allS_bit] at hi
        exact thr0_bit.mpr ⟨hi.1, hi.2, nl_thr wB (Nat.le_of_lt (g4 i hi.1 hi.2 B b1 b2 b3)) hm⟩)
      have eT' : thr0 A u' d' (dif R B) c b = dif (allS A) (dif R B) := sub_eq (fun i hi => by
        rw [thr0_bit] at hi
        exact dif_bitp.mpr ⟨allS_bit.mpr hi.1, hi.2.1⟩) (fun i hi => by
        rw [dif_bitp, allS_bit] at hi
        refine thr0_bit.mpr ⟨hi.1, hi.2, ?_⟩
        by_cases c2 : R.testBit i = true
        · exact nl_thr wB (Nat.le_of_eq (k2 i hi.1 (((out i).mp hi.2).resolve_left (fun k => k c2))).2.2) hm
        · rw [(k1 i hi.1 c2).1, (k1 i hi.1 c2).2]
          exact nl_thr wB (Nat.le_of_lt (g4 i hi.1 c2 B b1 b2 b3)) hm)
      rw [eT']
      refine ⟨q3, fun S hS hS2 => ?_⟩
      obtain ⟨x1, x2⟩ := xs S hS2
      have f1 := (t2 S hS hS2).1
      rw [eT] at f1
      have f2 : sI (FF A c b) (dif (allS A) (dif R B)) (hN A) = sI (FF A c b) (dif (allS A) R) (hN A) + sI (FF A c b) B (hN A) := by
        refine sI_two (fun i hi => ?_)
        simp only [dif_bitp]
        have ha : (allS A).testBit i = true := allS_bit.mpr hi
        have hr := b1 i
        by_cases c2 : R.testBit i = true <;> by_cases c3 : B.testBit i = true <;> simp [c2, c3, ha] at hr ⊢
      have f3 : sI (FF A c b) B (hN A) ≤ sI (FF A c b) (S &&& B) (hN A) := by
        rw [FF_sum, FF_sum]
        by_cases z : S &&& B = 0
        · have z1 : (wtS A (S &&& B) : Int) = 0 := by rw [wtS_I, z, sI_zero]
          have z2 : (suS A (S &&& B) : Int) = 0 := by rw [suS_I, z, sI_zero]
          rw [z1, z2]
          have : ((suS A B * b : Nat) : Int) ≤ ((c * wtS A B : Nat) : Int) := Int.ofNat_le.mpr hm
          rw [Int.natCast_mul, Int.natCast_mul, Int.mul_comm (suS A B : Int)] at this
          simp
          omega
        · have := nl_in (b := b) (c := c) wB (b4 _ x1 z x2).1 hm (wtS_mono A (sub_and (S := B) (T := S) (R := B) (fun i hi => hi) |> fun h => by rw [Nat.and_comm]; exact h))
          have h2 : ((b * suS A B + c * wtS A (S &&& B) : Nat) : Int) ≤ ((b * suS A (S &&& B) + c * wtS A B : Nat) : Int) := Int.ofNat_le.mpr this
          rw [Int.natCast_add, Int.natCast_add, Int.natCast_mul, Int.natCast_mul, Int.natCast_mul, Int.natCast_mul] at h2
          omega
      rw [split S hS]
      exact ⟨by omega, fun _ i hi => (and_bit.mp hi).2⟩
    · have eT' : thr0 A u' d' (dif R B) c b = thr0 A u d R c b := sub_eq (fun i hi => by
        rw [thr0_bit] at hi ⊢
        by_cases c2 : R.testBit i = true
        · obtain ⟨e1, e2, e3⟩ := k2 i hi.1 (((out i).mp hi.2.1).resolve_left (fun k => k c2))
          have := nl_nthr e1 e3 (show c * wtS A B < suS A B * b by omega)
          exact absurd hi.2.2 (by omega)
        · rw [(k1 i hi.1 c2).1, (k1 i hi.1 c2).2] at hi
          exact ⟨hi.1, c2, hi.2.2⟩) (fun i hi => by
        rw [thr0_bit] at hi ⊢
        rw [(k1 i hi.1 hi.2.1).1, (k1 i hi.1 hi.2.1).2]
        exact ⟨hi.1, (out i).mpr (Or.inl hi.2.1), hi.2.2⟩)
      rw [eT']
      refine ⟨t1, fun S hS hS2 => ?_⟩
      obtain ⟨x1, x2⟩ := xs S hS2
      obtain ⟨f1, f2⟩ := t2 S hS hS2
      have f3 : S &&& B ≠ 0 → 0 < sI (FF A c b) (S &&& B) (hN A) := by
        intro z
        obtain ⟨j, hj⟩ := bit_of_ne0 z
        have wX : 0 < wtS A (S &&& B) := wtS_pos hok (allS_bit.mp (g1 _ (x1 _ hj))) hj
        have := nl_out (b := b) (c := c) (b4 _ x1 z x2).1 (show c * wtS A B < suS A B * b by omega) wX
        have h2 : ((c * wtS A (S &&& B) : Nat) : Int) < ((b * suS A (S &&& B) : Nat) : Int) := Int.ofNat_lt.mpr this
        rw [Int.natCast_mul, Int.natCast_mul] at h2
        rw [FF_sum]
        omega
      rw [split S hS]
      by_cases z : S &&& B = 0
      · rw [z, sI_zero, Int.add_zero]
        refine ⟨f1, fun e i hi => ?_⟩
        rw [and_bit, dif_bitp, out] at hi
        rcases hi.2.2 with k | k
        · exact f2 e i (and_bit.mpr ⟨hi.1, dif_bitp.mpr ⟨hi.2.1, k⟩⟩)
        · have : (S &&& B).testBit i = true := and_bit.mpr ⟨hi.1, k⟩
          rw [z, Nat.zero_testBit] at this
          cases this
      · have := f3 z
        exact ⟨by omega, fun e => absurd e (by omega)⟩
theorem GI_start (A : Sh) (W : Nat) (u d : Nat → Nat) : GI A W (allS A) u d := by
  have z : dif (allS A) (allS A) = 0 := Nat.eq_of_testBit_eq fun i => by
    rw [dif_bit, Nat.zero_testBit]
    cases (allS A).testBit i <;> rfl
  refine ⟨fun i hi => hi, fun p hp h => absurd (allS_bit.mpr hp) h, ?_, fun p hp h => absurd (allS_bit.mpr hp) h, fun c b hb => ?_⟩
  · rw [z]; exact low_zero A W _
  · have e : thr0 A u d (allS A) c b = 0 := sub_eq (fun i hi => by
      rw [thr0_bit] at hi
      exact absurd (allS_bit.mpr hi.1) hi.2.1) (fun i hi => by rw [Nat.zero_testBit] at hi; cases hi)
    rw [e, z]
    refine ⟨low_zero A W _, fun S _ _ => ?_⟩
    rw [Nat.and_zero]
    exact ⟨Int.le_refl _, fun _ i hi => hi⟩
/-- what the values by squares are, told by thresholds -/
def Sp0 (A : Sh) (W : Nat) (u d : Nat → Nat) : Prop := (∀ p, p < hN A → 1 ≤ d p ∧ Nat.Coprime (u p) (d p)) ∧ ∀ c b : Nat, 0 < b → isT A W (allS A) (FF A c b) (bs (fun p => decide (u p * b ≤ c * d p)) (hN A))
theorem GI_end {A : Sh} {W : Nat} {u d : Nat → Nat} (g : GI A W 0 u d) : Sp0 A W u d := by
  obtain ⟨g1, g2, g3, g4, g5⟩ := g
  have nz : ∀ p, ¬ (0 : Nat).testBit p = true := fun p => by rw [Nat.zero_testBit]; decide
  refine ⟨fun p hp => g2 p hp (nz p), fun c b hb => ?_⟩
  have e : bs (fun p => decide (u p * b ≤ c * d p)) (hN A) = thr0 A u d 0 c b := by
    unfold thr0
    congr 1
    funext p
    rw [Nat.zero_testBit, Bool.not_false, Bool.true_and]
  have e2 : dif (allS A) 0 = allS A := Nat.eq_of_testBit_eq fun i => by
    rw [dif_bit, Nat.zero_testBit, Bool.not_false, Bool.and_true]
  obtain ⟨t1, t2⟩ := g5 c b hb
  rw [e]
  have e3 : ∀ S, sub S (allS A) → S &&& dif (allS A) 0 = S := fun S hS => by
    rw [e2]
    exact sub_eq (fun i hi => (and_bit.mp hi).1) (fun i hi => and_bit.mpr ⟨hi, hS i hi⟩)
  refine ⟨sub_all (bs_lt _ _), t1, fun S h1 h2 => ?_, fun S h1 h2 h3 => ?_⟩
  · have := (t2 S h1 h2).1
    rw [e3 S h1] at this
    exact this
  · have := (t2 S h1 h2).2
    rw [e3 S h1] at this
    exact this h3
theorem frac_eq {a b c d : Nat} (h1 : Nat.Coprime a b) (h2 : Nat.Coprime c d) (hb : 0 < b) (hd : 0 < d) (e : a * d = c * b) : a = c ∧ b = d := by
  have d1 : b ∣ d := h1.symm.dvd_of_dvd_mul_left ⟨c, by rw [e, Nat.mul_comm]⟩
  have d2 : d ∣ b := h2.symm.dvd_of_dvd_mul_left ⟨a, by rw [← e, Nat.mul_comm]⟩
  have e2 : b = d := Nat.dvd_antisymm d1 d2
  rw [e2] at e
  exact ⟨Nat.eq_of_mul_eq_mul_right hd e, e2⟩
theorem Sp0_eq {A : Sh} {W : Nat} {u d u' d' : Nat → Nat} (h : Sp0 A W u d) (k : Sp0 A W u' d') : ∀ p, p < hN A → u p = u' p ∧ d p = d' p := by
  have half : ∀ {u d u' d' : Nat → Nat}, Sp0 A W u d → Sp0 A W u' d' → ∀ p, p < hN A → u' p * d p ≤ u p * d' p := by
    intro u d u' d' h k p hp
    have e := isT_eq (h.2 (u p) (d p) (h.1 p hp).1) (k.2 (u p) (d p) (h.1 p hp).1)
    have b1 : (bs (fun q => decide (u q * d p ≤ u p * d q)) (hN A)).testBit p = true := by
      rw [bs_bit, decide_eq_true hp, Bool.true_and, decide_eq_true_iff]
      exact Nat.le_refl _
    rw [e, bs_bit, decide_eq_true hp, Bool.true_and, decide_eq_true_iff] at b1
    exact b1
  intro p hp
  have h1 := half h k p hp
  have h2 := half k h p hp
  exact frac_eq (h.1 p hp).2 (k.1 p hp).2 (h.1 p hp).1 (k.1 p hp).1 (by omega)
