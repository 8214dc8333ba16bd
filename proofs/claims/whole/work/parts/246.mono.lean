/-! a value never falls as RAW grows -/
theorem mkN_le2 {k f : Nat} (hk : k < 6) (hf : f < 10) : ∀ {r r' : Nat}, r ≤ r' → r' < 100 → mkN k r f ≤ mkN k r' f := by
  intro r r' h
  induction r' with
  | zero => intro _; rw [show r = 0 by omega]; exact Nat.le_refl _
  | succ n ih =>
    intro hn
    rcases Nat.lt_or_ge r (n + 1) with q | q
    · exact Nat.le_trans (ih (by omega) (by omega)) (mkN_mono k hk f hf n (by omega))
    · rw [show r = n + 1 by omega]; exact Nat.le_refl _
theorem mk_raw {A : Sh} (hok : okS A) {p v v' : Nat} (h : v ≤ v') (hv : v' ≤ 99) {i : Nat} (hi : i < hN A) : mkA (aRaw A p v) i ≤ mkA (aRaw A p v') i := by
  obtain ⟨k1, k2, k3, k4, k5⟩ := hok.1.2 i hi
  show mkN (hK A i) (setF (hR A) p v i) (hF A i) ≤ mkN (hK A i) (setF (hR A) p v' i) (hF A i)
  by_cases c : i = p
  · rw [c, setF_at, setF_at]
    rw [c] at k2 k3
    exact mkN_le2 (by omega) (by omega) h (by omega)
  · rw [setF_ne c, setF_ne c]
    exact Nat.le_refl _
theorem isT_raw {A : Sh} {p v W R : Nat} {f : Nat → Int} {T : Nat} (h : isT (aRaw A p v) W R f T) : isT A W R f T := h
theorem val_mono {A : Sh} (hok : okS A) {l p v v' : Nat} (hl : l < 3) (hp : p < hN A) (h : v ≤ v') (hv : v' ≤ 99) : vU (aRaw A p v) l 0 p * vD (aRaw A p v') l 0 p ≤ vU (aRaw A p v') l 0 p * vD (aRaw A p v) l 0 p := by
  have ok1 : okS (aRaw A p v) := okRaw hok (by omega)
  have ok2 : okS (aRaw A p v') := okRaw hok hv
  have x1 := vQ_val ok1 hl 0
  have x2 := vQ_val ok2 hl 0
  have b1 := val_bd ok1 hl (W := 0) (p := p) hp
  have b2 := val_bd ok2 hl (W := 0) (p := p) hp
  generalize vU (aRaw A p v) l 0 = u at *
  generalize vD (aRaw A p v) l 0 = d at *
  generalize vU (aRaw A p v') l 0 = u' at *
  generalize vD (aRaw A p v') l 0 = d' at *
  match l, hl with
  | 0, _ =>
    have s1 : Sp0 (aRaw A p v) 0 u d := by
      rcases x1.1 with ⟨_, h⟩ | ⟨h, _⟩ | ⟨h, _⟩
      · exact h
      · cases h
      · cases h
    have s2 : Sp0 (aRaw A p v') 0 u' d' := by
      rcases x2.1 with ⟨_, h⟩ | ⟨h, _⟩ | ⟨h, _⟩
      · exact h
      · cases h
      · cases h
    have t1 := isT_raw (s1.2 (u' p) (d' p) b2.1)
    have t2 := isT_raw (s2.2 (u' p) (d' p) b2.1)
    have q := isT_mono t1 t2 (fun i hi => by
      have hm := mk_raw hok h hv hi (p := p)
      have hw : wtA (aRaw A p v) i = wtA (aRaw A p v') i := rfl
      unfold FF
      rw [hw]
      have h1 := Nat.mul_le_mul_right (wtA (aRaw A p v') i) hm
      have h2 := Nat.mul_le_mul_left (d' p) h1
      have h3 : ((d' p * (mkA (aRaw A p v) i * wtA (aRaw A p v') i) : Nat) : Int) ≤ ((d' p * (mkA (aRaw A p v') i * wtA (aRaw A p v') i) : Nat) : Int) := Int.ofNat_le.mpr h2
      rw [Int.natCast_mul (d' p), Int.natCast_mul (d' p)] at h3
      omega)
    have e2 : (bs (fun q => decide (u' q * d' p ≤ u' p * d' q)) (hN A)).testBit p = true := by
      rw [bs_bit, decide_eq_true hp, Bool.true_and, decide_eq_true_iff]
      exact Nat.le_refl _
    have e1 := q p e2
    rw [bs_bit, Bool.and_eq_true, decide_eq_true_iff, decide_eq_true_iff] at e1
    exact e1.2
  | 1, _ =>
    have s1 : Sp1 (aRaw A p v) 0 u ∧ d p = 1 := by
      rcases x1.1 with ⟨h, _⟩ | ⟨_, h, h2⟩ | ⟨h, _⟩
      · cases h
      · exact ⟨h, h2 p hp⟩
      · cases h
    have s2 : Sp1 (aRaw A p v') 0 u' ∧ d' p = 1 := by
      rcases x2.1 with ⟨h, _⟩ | ⟨_, h, h2⟩ | ⟨h, _⟩
      · cases h
      · exact ⟨h, h2 p hp⟩
      · cases h
    have lt := s2.1.1 p hp
    have t1 := isT_raw (s1.1.2 (u' p + 1) (by omega))
    have t2 := isT_raw (s2.1.2 (u' p + 1) (by omega))
    have q := isT_mono t1 t2 (fun i hi => by
      have hm := mk_raw hok h hv hi (p := p)
      have hw : wtA (aRaw A p v) i = wtA (aRaw A p v') i := rfl
      unfold gv
      rw [hw]
      by_cases c : mkA (aRaw A p v') i < u' p + 1
      · rw [if_pos c, if_pos (by omega)]
        exact Int.le_refl _
      · rw [if_neg c]
        split <;> omega)
    have e2 : (bs (fun q => decide (u' q < u' p + 1)) (hN A)).testBit p = true := by
      rw [bs_bit, decide_eq_true hp, Bool.true_and, decide_eq_true_iff]
      omega
    have e1 := q p e2
    rw [bs_bit, Bool.and_eq_true, decide_eq_true_iff, decide_eq_true_iff] at e1
    rw [s1.2, s2.2]
    omega
  | 2, _ =>
    have s1 : Sp2 (aRaw A p v) 0 u d := by
      rcases x1.1 with ⟨h, _⟩ | ⟨h, _⟩ | ⟨_, h⟩
      · cases h
      · cases h
      · exact h
    have s2 : Sp2 (aRaw A p v') 0 u' d' := by
      rcases x2.1 with ⟨h, _⟩ | ⟨h, _⟩ | ⟨_, h⟩
      · cases h
      · cases h
      · exact h
    obtain ⟨a1, a2⟩ := s1 p hp
    obtain ⟨c1, c2⟩ := s2 p hp
    have hu : ∀ i j, undB (aRaw A p v) 0 i j = undB (aRaw A p v') 0 i j := fun i j => by
      have e : Und (aRaw A p v) 0 i j ↔ Und (aRaw A p v') 0 i j := Iff.rfl
      cases w1 : undB (aRaw A p v) 0 i j <;> cases w2 : undB (aRaw A p v') 0 i j
      · rfl
      · exact absurd (undB_iff.mpr (e.mpr (undB_iff.mp w2))) (by rw [w1]; decide)
      · exact absurd (undB_iff.mpr (e.mp (undB_iff.mp w1))) (by rw [w2]; decide)
      · rfl
    have hi : ∀ k, k ≤ hN A → hiW (aRaw A p v) 0 p k ≤ hiW (aRaw A p v') 0 p k := by
      intro k
      induction k with
      | zero => intro _; exact mk_raw hok h hv hp
      | succ k ih =>
        intro hk
        have := ih (by omega)
        have := mk_raw hok h hv (show k < hN A by omega) (p := p)
        rw [hiW, hiW, hu]
        split
        · split <;> split <;> omega
        · omega
    have lo : ∀ k, k ≤ hN A → loW (aRaw A p v) 0 p k ≤ loW (aRaw A p v') 0 p k := by
      intro k
      induction k with
      | zero => intro _; exact mk_raw hok h hv hp
      | succ k ih =>
        intro hk
        have := ih (by omega)
        have := mk_raw hok h hv (show k < hN A by omega) (p := p)
        rw [loW, loW, hu]
        split
        · split <;> split <;> omega
        · omega
    have bo : both (aRaw A p v) 0 p ≤ both (aRaw A p v') 0 p := Nat.add_le_add (hi (hN A) (Nat.le_refl _)) (lo (hN A) (Nat.le_refl _))
    obtain ⟨o1, o2, o3, o4, o5⟩ := red_nat (both (aRaw A p v) 0 p) (b := 2) (by decide)
    obtain ⟨z1, z2, z3, z4, z5⟩ := red_nat (both (aRaw A p v') 0 p) (b := 2) (by decide)
    rw [← a1, ← a2] at o5
    rw [← c1, ← c2] at z5
    have f1 := Nat.mul_le_mul_right (d p * d' p) bo
    have f2 : both (aRaw A p v) 0 p * (d p * d' p) = u p * d' p * 2 := by rw [← Nat.mul_assoc, ← o5, Nat.mul_right_comm]
    have f3 : both (aRaw A p v') 0 p * (d p * d' p) = u' p * d p * 2 := by rw [Nat.mul_comm (d p), ← Nat.mul_assoc, ← z5, Nat.mul_right_comm]
    omega
/-- the grade, in plain numbers -/
theorem grd_nat {A : Sh} (hok : okS A) {u d : Nat} (hu : u < 100000) (hd : d < 1000) : ∀ k, k ≤ hB A → grd A (nI u).toInt64 (nI d).toInt64 k = sm (fun k => if hM A k * d ≤ u then 1 else 0) k := by
  intro k
  induction k with
  | zero => intro _; rfl
  | succ k ih =>
    intro hk
    have hm := hok.2.2.1.2 k (by omega)
    have e1 : hM A k * d ≤ 99 * 1000 := Nat.mul_le_mul hm.2 (by omega)
    rw [grd, sm, ih (by omega), nI_64 (by omega), nI_64 (by omega), nI_64 (by omega), J_mul, ← Int.natCast_mul]
    congr 1
    have e2 := J_nlt (a := u) (b := hM A k * d) (by omega) (by omega)
    by_cases c : hM A k * d ≤ u
    · rw [if_pos c, if_neg (fun x => by have := e2.mp x; omega)]
    · rw [if_neg c, if_pos (e2.mpr (by omega))]
noncomputable def gr (A : Sh) (l p v : Nat) : Nat := grd (aRaw A p v) (nI (vU (aRaw A p v) l 0 p)).toInt64 (nI (vD (aRaw A p v) l 0 p)).toInt64 (hB A)
theorem gr_mono {A : Sh} (hok : okS A) {l p v v' : Nat} (hl : l < 3) (hp : p < hN A) (h : v ≤ v') (hv : v' ≤ 99) : gr A l p v ≤ gr A l p v' := by
  have ok1 : okS (aRaw A p v) := okRaw hok (by omega)
  have ok2 : okS (aRaw A p v') := okRaw hok hv
  have b1 := val_bd ok1 hl (W := 0) (p := p) hp
  have b2 := val_bd ok2 hl (W := 0) (p := p) hp
  have m := val_mono hok hl hp h hv
  unfold gr
  rw [grd_nat ok1 (by omega) (by omega) _ (Nat.le_refl (hB A)), grd_nat ok2 (by omega) (by omega) _ (Nat.le_refl (hB A))]
  refine sm_le (fun k hk => ?_)
  show (if hM A k * vD (aRaw A p v) l 0 p ≤ vU (aRaw A p v) l 0 p then 1 else 0) ≤ (if hM A k * vD (aRaw A p v') l 0 p ≤ vU (aRaw A p v') l 0 p then 1 else 0)
  by_cases c : hM A k * vD (aRaw A p v) l 0 p ≤ vU (aRaw A p v) l 0 p
  · rw [if_pos c, if_pos]
    · exact Nat.le_refl 1
    · refine Nat.le_of_mul_le_mul_right (c := vD (aRaw A p v) l 0 p) ?_ b1.1
      have h1 := Nat.mul_le_mul_right (vD (aRaw A p v') l 0 p) c
      rw [Nat.mul_right_comm] at h1
      omega
  · rw [if_neg c]
    exact Nat.zero_le _
theorem cut : ∀ (n : Nat) (P : Nat → Prop), (∀ v v', v ≤ v' → v' < n → P v' → P v) → ∃ N, N ≤ n ∧ ∀ v, v < n → (P v ↔ v < N) := by
  intro n
  induction n with
  | zero => intro P _; exact ⟨0, Nat.le_refl 0, fun v hv => absurd hv (Nat.not_lt_zero v)⟩
  | succ n ih =>
    intro P down
    obtain ⟨N, hN, h⟩ := ih P (fun v v' a b => down v v' a (by omega))
    by_cases c : P n
    · refine ⟨n + 1, Nat.le_refl _, fun v hv => ⟨fun _ => hv, fun _ => down v n (by omega) (by omega) c⟩⟩
    · refine ⟨N, by omega, fun v hv => ?_⟩
      rcases Nat.lt_or_ge v n with w | w
      · exact h v w
      · rw [show v = n by omega]
        exact ⟨fun x => absurd x c, fun x => absurd x (by omega)⟩
