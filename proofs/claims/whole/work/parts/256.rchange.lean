/-! CHANGE of the reference by SQUARE, by ABSOLUTE; by WORST of both -/
theorem chg_pre {A : Sh} (hok : okS A) {l W K : Nat} (hl : l < 2) (k0 : 0 < K) (k1 : K ≤ 279936) (k2 : ∀ p, p < hN A → tD l (vD A l W) p ∣ K * K) : ∀ k, k ≤ hN A → BD (K * K) (250632 * k) (sQ (tQ A l (vU A l W) (vD A l W)) (fun _ => true) k) := by
  have n7 := hok.1.1
  have KB : K * K ≤ 279936 * 279936 := Nat.mul_le_mul k1 k1
  intro k
  induction k with
  | zero => intro _; exact BD_zero _
  | succ k ih =>
    intro hk
    have b := val_bd hok (show l < 3 by omega) (W := W) (show k < hN A by omega)
    have big : (250632 * k + 250632 + 1) * (K * K) < 4611686018427387904 := by
      have := Nat.mul_le_mul (show 250632 * k + 250632 + 1 ≤ 250632 * 71 + 1 by omega) KB
      omega
    have f := (fadd (Nat.mul_pos k0 k0) (ih (by omega)) (tD_pos hok (show l < 3 by omega) (show k < hN A by omega)) (k2 k (by omega)) (tN_le hok (by omega) b.2.2.1) big).1
    rw [sQ, if_pos rfl, Nat.mul_succ]
    exact f
/-- twice by how much, a whole number by WORST -/
def dbl (A : Sh) (u d : Nat → Nat) (p : Nat) : Nat := 2 * byN A u d p / d p
def mxd (A : Sh) (u d : Nat → Nat) : Nat → Nat
  | 0 => 0
  | k + 1 => if dbl A u d k < mxd A u d k then mxd A u d k else dbl A u d k
noncomputable def chQ (A : Sh) (l W : Nat) : Rat := if l = 2 then mkRat (mxd A (vU A 2 W) (vD A 2 W) (hN A) : Int) 2 else chg A l (vU A l W) (vD A l W)
theorem d_two {A : Sh} (hok : okS A) {W p : Nat} (hp : p < hN A) : vD A 2 W p ∣ 2 := by
  have v := vQ_val hok (show 2 < 3 by decide) W
  rcases v.1 with ⟨h, _⟩ | ⟨h, _⟩ | ⟨_, h⟩
  · cases h
  · cases h
  · rw [(h p hp).2]
    exact Nat.div_dvd_of_dvd (Nat.gcd_dvd_right _ _)
theorem dbl_in {A : Sh} (hok : okS A) {W p : Nat} (hp : p < hN A) : dbl A (vU A 2 W) (vD A 2 W) p * vD A 2 W p = 2 * byN A (vU A 2 W) (vD A 2 W) p ∧ dbl A (vU A 2 W) (vD A 2 W) p ≤ 236 := by
  have b := val_bd hok (show 2 < 3 by decide) (W := W) hp
  have by' := byN_le hok hp b.2.2.1
  have dv : vD A 2 W p ∣ 2 * byN A (vU A 2 W) (vD A 2 W) p := Nat.dvd_trans (d_two hok hp) (Nat.dvd_mul_right _ _)
  have e := Nat.div_mul_cancel dv
  refine ⟨e, Nat.le_of_mul_le_mul_right (c := vD A 2 W p) ?_ b.1⟩
  show 2 * byN A (vU A 2 W) (vD A 2 W) p / vD A 2 W p * vD A 2 W p ≤ _
  rw [e]
  omega
theorem mxd_le {A : Sh} (hok : okS A) {W : Nat} : ∀ k, k ≤ hN A → mxd A (vU A 2 W) (vD A 2 W) k ≤ 236 := by
  intro k
  induction k with
  | zero => intro _; exact Nat.zero_le _
  | succ k ih =>
    intro hk
    have := ih (by omega)
    have := (dbl_in hok (W := W) (show k < hN A by omega)).2
    rw [mxd]
    split <;> omega
theorem chQ_BD {A : Sh} (hok : okS A) {l : Nat} (W : Nat) (hl : l < 3) : ∃ K, 0 < K ∧ K ≤ 279936 ∧ BD K (250632 * 7) (chQ A l W) := by
  by_cases c : l = 2
  · have m := mxd_le hok (W := W) (hN A) (Nat.le_refl _)
    obtain ⟨m1, m2, m3, m4, m5⟩ := red_nat (mxd A (vU A 2 W) (vD A 2 W) (hN A)) (b := 2) (by decide)
    refine ⟨2, by decide, by decide, ?_⟩
    unfold chQ
    rw [if_pos c]
    refine ⟨den_mk _ (by decide), ?_, ?_⟩
    · rw [m1]; exact Int.natCast_nonneg _
    · rw [m1, m2, ← Int.natCast_mul]
      refine Int.ofNat_le.mpr ?_
      have := Nat.mul_le_mul_right (2 / Nat.gcd (mxd A (vU A 2 W) (vD A 2 W) (hN A)) 2) m
      omega
  · obtain ⟨K, k0, k1, k2, k3⟩ := chg_K hok (W := W) (show l < 2 by omega)
    have p := chg_pre hok (show l < 2 by omega) k0 k1 k2 (hN A) (Nat.le_refl _)
    refine ⟨K, k0, k1, ?_⟩
    unfold chQ
    rw [if_neg c]
    exact ⟨k3, p.2.1, (BD_mono p (Nat.mul_le_mul_left 250632 hok.1.1)).2.2⟩
theorem changes10 {s : T10} {A : Sh} (h : S10 s A) (hok : okS A) {l T W : Nat} (hl : l < 3) (hT : T < 2 ^ 12) (hTW : ∀ r, r < hU A → T.testBit r = !W.testBit r) : ∃ q : (Nat → Int32) × (Nat → Int32) × (Nat → Int32), m_X10_changes s (nI l) (nI T) = some (J (chQ A l W).num, J ((chQ A l W).den : Int), q) := by
  have n7 := hok.1.1
  obtain ⟨x, x1, x2⟩ := values10 h hok hl hT hTW
  have f0 : ∀ s : T10, m_X10_fraction s 0 1 = some (J 0, J 1) := fun s => fraction10 s (x := 0) (d := 1) rng0 (by decide) (rng_nat (by decide))
  have u1 : ∀ p, p < hN A → x.2.2.2.1 p = nI (vU A l W p) := fun p hp => x2.2.1 p hp
  have u2 : ∀ p, p < hN A → x.2.2.2.2 p = nI (vD A l W p) := fun p hp => x2.2.2 p hp
  have mk : ∀ (a b : Int64) p, p < hN A → m_X10_mark (u10_valueDown x.2.2.2.2 (u10_valueUp x.2.2.2.1 (u10_beneath x.2.2.1 (u10_down b (u10_up a s))))) (nI p) = some (nI (mkA A p)) := fun a b p hp => mark10 (S10_stM h (a, b, x.2.2)) hok hp
  have wt : ∀ (a b : Int64) p, p < hN A → m_X10_weight (u10_valueDown x.2.2.2.2 (u10_valueUp x.2.2.2.1 (u10_beneath x.2.2.1 (u10_down b (u10_up a s))))) (nI p) = some (nI (wtA A p)) := fun a b p hp => weight10 (S10_stM h (a, b, x.2.2)) hok hp
  by_cases c : l = 2
  · subst c
    obtain ⟨r, e, rfl⟩ := lp_invf (f := fun z : Int64 × Int32 × Int64 × Int64 => m_X10_changes_l17 s (nI 2) x z.1 z.2.1 z.2.2.1 z.2.2.2) (I := fun d z => ∃ k, k ≤ hN A ∧ d = hN A - k ∧ z = (J (mxd A (vU A 2 W) (vD A 2 W) k : Int), nI k, J 0, J 1)) (Q := fun r => r = (J (mxd A (vU A 2 W) (vD A 2 W) (hN A) : Int), J 0, J 1)) (d := hN A) (s := ((0 : Int64), (0 : Int32), J 0, J 1)) (by
      rintro d z ⟨k, hk, hd, rfl⟩
      rcases Nat.lt_or_ge k (hN A) with w | w
      · have ib : inb (nI k) 7 = true := inb_nI (by omega) (by decide)
        have cl : (nI k).toNatClampNeg = k := nI_clamp (by omega)
        have b := val_bd hok (show 2 < 3 by decide) (W := W) w
        have by' := byN_le hok w b.2.2.1
        have dl := dbl_in hok (W := W) w
        have ml := mxd_le hok (W := W) k (by omega)
        have rd : rng (vD A 2 W k : Int) := rng_nat (by omega)
        have dv : J ((2 * byN A (vU A 2 W) (vD A 2 W) k : Nat) : Int) / J (vD A 2 W k : Int) = J (dbl A (vU A 2 W) (vD A 2 W) k : Int) := by
          rw [J_tdiv (rng_nat (by omega)) rd (by omega)]
          congr 1
        refine Or.inl ⟨hN A - (k + 1), (J (mxd A (vU A 2 W) (vD A 2 W) (k + 1) : Int), nI (k + 1), J 0, J 1), ?_, by omega, k + 1, by omega, rfl, rfl⟩
        show m_X10_changes_l17 s (nI 2) x (J (mxd A (vU A 2 W) (vD A 2 W) k : Int)) (nI k) (J 0) (J 1) = _
        unfold m_X10_changes_l17
        rw [h.1, if_neg (nI_ge w (by omega)), if_pos ib, mk _ _ k w, Option.bind_some, if_pos ib, cl, u1 k w, u2 k w, diff_J hok (by decide) w, Option.bind_some, if_neg (show ¬ nI 2 = 0 by decide), if_neg (show ¬ nI 2 = 1 by decide), if_pos ib, nI_64 (by omega), if_pos (J_ne0 rd (by omega)), show (2 : Int64) = J ((2 : Nat) : Int) from rfl, J_mul, ← Int.natCast_mul, dv, Option.bind_some, nI_1, mxd]
        by_cases c : dbl A (vU A 2 W) (vD A 2 W) k < mxd A (vU A 2 W) (vD A 2 W) k
        · rw [if_pos c, if_pos ((J_nlt (by omega) (by omega)).mpr c)]
        · rw [if_neg c, if_neg (fun x => c ((J_nlt (by omega) (by omega)).mp x))]
      · refine Or.inr ⟨(J (mxd A (vU A 2 W) (vD A 2 W) k : Int), J 0, J 1), ?_, by rw [show k = hN A by omega]⟩
        show m_X10_changes_l17 s (nI 2) x (J (mxd A (vU A 2 W) (vD A 2 W) k : Int)) (nI k) (J 0) (J 1) = _
        unfold m_X10_changes_l17
        rw [h.1, if_pos (nI_le w (by omega))]) ⟨0, Nat.zero_le _, rfl, rfl⟩ (by omega)
    have ml := mxd_le hok (W := W) (hN A) (Nat.le_refl _)
    refine ⟨x.2.2, ?_⟩
    have fr : ∀ s : T10, m_X10_fraction s (J (mxd A (vU A 2 W) (vD A 2 W) (hN A) : Int)) 2 = some (J (mkRat (mxd A (vU A 2 W) (vD A 2 W) (hN A) : Int) 2).num, J ((mkRat (mxd A (vU A 2 W) (vD A 2 W) (hN A) : Int) 2).den : Int)) := fun s => fraction10 s (d := 2) (rng_nat (by omega)) (by decide) (rng_nat (by decide))
    unfold m_X10_changes
    rw [x1, Option.bind_some, f0, Option.bind_some, e, Option.bind_some, if_pos (show nI 2 = 2 from rfl), fr, Option.bind_some]
    unfold chQ
    rw [if_pos rfl]
  · obtain ⟨K, k0, k1, k2, k3⟩ := chg_K hok (W := W) (show l < 2 by omega)
    have pre := chg_pre hok (show l < 2 by omega) k0 k1 k2
    have KK : 0 < K * K := Nat.mul_pos k0 k0
    have KB : K * K ≤ 279936 * 279936 := Nat.mul_le_mul k1 k1
    obtain ⟨⟨ra, rb, rc⟩, e, er⟩ := lp_invf (f := fun z : Int64 × Int32 × Int64 × Int64 => m_X10_changes_l17 s (nI l) x z.1 z.2.1 z.2.2.1 z.2.2.2) (I := fun d z => ∃ k, k ≤ hN A ∧ d = hN A - k ∧ z = (0, nI k, J (sQ (tQ A l (vU A l W) (vD A l W)) (fun _ => true) k).num, J ((sQ (tQ A l (vU A l W) (vD A l W)) (fun _ => true) k).den : Int))) (Q := fun r => r.2 = (J (chg A l (vU A l W) (vD A l W)).num, J ((chg A l (vU A l W) (vD A l W)).den : Int))) (d := hN A) (s := ((0 : Int64), (0 : Int32), J 0, J 1)) (by
      rintro d z ⟨k, hk, hd, rfl⟩
      rcases Nat.lt_or_ge k (hN A) with w | w
      · have ib : inb (nI k) 7 = true := inb_nI (by omega) (by decide)
        have cl : (nI k).toNatClampNeg = k := nI_clamp (by omega)
        have b := val_bd hok (show l < 3 by omega) (W := W) w
        have wl := wtA_in hok w
        have big : (250632 * k + 250632 + 1) * (K * K) < 4611686018427387904 := by
          have := Nat.mul_le_mul (show 250632 * k + 250632 + 1 ≤ 250632 * 71 + 1 by omega) KB
          omega
        obtain ⟨_, f1, f2, f3, f4⟩ := fadd KK (pre k (by omega)) (tD_pos hok (show l < 3 by omega) w) (k2 k w) (tN_le hok w b.2.2.1) big
        have ad := add10 (s := u10_valueDown x.2.2.2.2 (u10_valueUp x.2.2.2.1 (u10_beneath x.2.2.1 (u10_down (J ((sQ (tQ A l (vU A l W) (vD A l W)) (fun _ => true) k).den : Int)) (u10_up (J (sQ (tQ A l (vU A l W) (vD A l W)) (fun _ => true) k).num) s))))) (q := sQ (tQ A l (vU A l W) (vD A l W)) (fun _ => true) k) rfl rfl (tD_pos hok (show l < 3 by omega) w) f1 f2 f3 f4
        have nx : sQ (tQ A l (vU A l W) (vD A l W)) (fun _ => true) (k + 1) = sQ (tQ A l (vU A l W) (vD A l W)) (fun _ => true) k + mkRat (tN A l (vU A l W) (vD A l W) k : Int) (tD l (vD A l W) k) := by
          rw [sQ, if_pos rfl]
          rfl
        refine Or.inl ⟨hN A - (k + 1), (0, nI (k + 1), J (sQ (tQ A l (vU A l W) (vD A l W)) (fun _ => true) (k + 1)).num, J ((sQ (tQ A l (vU A l W) (vD A l W)) (fun _ => true) (k + 1)).den : Int)), ?_, by omega, k + 1, by omega, rfl, rfl⟩
        show m_X10_changes_l17 s (nI l) x 0 (nI k) (J (sQ (tQ A l (vU A l W) (vD A l W)) (fun _ => true) k).num) (J ((sQ (tQ A l (vU A l W) (vD A l W)) (fun _ => true) k).den : Int)) = _
        unfold m_X10_changes_l17
        rw [h.1, if_neg (nI_ge w (by omega)), if_pos ib, mk _ _ k w, Option.bind_some, if_pos ib, cl, u1 k w, u2 k w, diff_J hok (by omega) w, Option.bind_some, wt _ _ k w, Option.bind_some, if_pos ib, if_pos ib, Option.bind_some, nI_64 (k := wtA A k) (by omega), nI_64 (k := vD A l W k) (by omega), nI_1, nx, J_mul, J_mul, J_mul, ← Int.natCast_mul, ← Int.natCast_mul, ← Int.natCast_mul]
        rcases (show l = 0 ∨ l = 1 by omega) with rfl | rfl
        · rw [if_pos (show nI 0 = 0 from rfl)]
          have ad' : m_X10_add (u10_valueDown x.2.2.2.2 (u10_valueUp x.2.2.2.1 (u10_beneath x.2.2.1 (u10_down (J ((sQ (tQ A 0 (vU A 0 W) (vD A 0 W)) (fun _ => true) k).den : Int)) (u10_up (J (sQ (tQ A 0 (vU A 0 W) (vD A 0 W)) (fun _ => true) k).num) s))))) (J ((wtA A k * byN A (vU A 0 W) (vD A 0 W) k * byN A (vU A 0 W) (vD A 0 W) k : Nat) : Int)) (J ((vD A 0 W k * vD A 0 W k : Nat) : Int)) = _ := ad
          rw [ad', Option.bind_some]
        · rw [if_neg (show ¬ nI 1 = 0 by decide), if_pos (show nI 1 = 1 from rfl)]
          have d1 : vD A 1 W k = 1 := by
            rcases (vQ_val hok (show 1 < 3 by decide) W).1 with ⟨h, _⟩ | ⟨_, _, h⟩ | ⟨h, _⟩
            · cases h
            · exact h k w
            · cases h
          have td : tD 1 (vD A 1 W) k = 1 := by
            unfold tD
            rw [if_neg (by decide), d1]
          rw [td] at ad ⊢
          have ad' : m_X10_add (u10_valueDown x.2.2.2.2 (u10_valueUp x.2.2.2.1 (u10_beneath x.2.2.1 (u10_down (J ((sQ (tQ A 1 (vU A 1 W) (vD A 1 W)) (fun _ => true) k).den : Int)) (u10_up (J (sQ (tQ A 1 (vU A 1 W) (vD A 1 W)) (fun _ => true) k).num) s))))) (J ((wtA A k * byN A (vU A 1 W) (vD A 1 W) k : Nat) : Int)) 1 = _ := ad
          rw [ad', Option.bind_some]
      · refine Or.inr ⟨(0, J (sQ (tQ A l (vU A l W) (vD A l W)) (fun _ => true) k).num, J ((sQ (tQ A l (vU A l W) (vD A l W)) (fun _ => true) k).den : Int)), ?_, by rw [show k = hN A by omega]; rfl⟩
        show m_X10_changes_l17 s (nI l) x 0 (nI k) (J (sQ (tQ A l (vU A l W) (vD A l W)) (fun _ => true) k).num) (J ((sQ (tQ A l (vU A l W) (vD A l W)) (fun _ => true) k).den : Int)) = _
        unfold m_X10_changes_l17
        rw [h.1, if_pos (nI_le w (by omega))]) ⟨0, Nat.zero_le _, rfl, rfl⟩ (by omega)
    have er : (rb, rc) = (J (chg A l (vU A l W) (vD A l W)).num, J ((chg A l (vU A l W) (vD A l W)).den : Int)) := er
    refine ⟨x.2.2, ?_⟩
    unfold m_X10_changes
    rw [x1, Option.bind_some, f0, Option.bind_some, e, Option.bind_some, if_neg (show ¬ nI l = 2 from loss_ne (b := 2) hl (by decide) c)]
    unfold chQ
    rw [if_neg c, ← (Prod.mk.inj er).1, ← (Prod.mk.inj er).2]
