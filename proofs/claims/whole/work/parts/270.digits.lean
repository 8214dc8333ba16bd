-- a number is written: the builder's way
theorem zI_neg (a : Int) : -zI a = zI (-a) := (Int32.ofInt_neg a).symm
theorem zI_div100 {w : Nat} (h : w < 100000) : zI (-(w : Int)) / 100 = zI (-((w / 100 : Nat) : Int)) := by
  rw [← Int32.toInt_inj, Int32.toInt_div_of_ne_right _ _ (by decide), zI_int (by omega) (by omega), zI_int (by omega) (by omega), show (100 : Int32).toInt = 100 from rfl, Int.neg_tdiv]
  exact congrArg Neg.neg (Int.ofNat_tdiv w 100).symm
def lnN (v : Nat) : Nat := if v < 10 then 1 else if v < 100 then 2 else if v < 1000 then 3 else if v < 10000 then 4 else 5
def dgt (v e i : Nat) : Nat := 48 + v / 10 ^ (e - 1 - i) % 10
theorem lnN_cases (v : Nat) : (lnN v = 1 ∧ v < 10) ∨ (lnN v = 2 ∧ 10 ≤ v ∧ v < 100) ∨ (lnN v = 3 ∧ 100 ≤ v ∧ v < 1000) ∨ (lnN v = 4 ∧ 1000 ≤ v ∧ v < 10000) ∨ (lnN v = 5 ∧ 10000 ≤ v) := by
  unfold lnN
  by_cases q1 : v < 10
  · rw [if_pos q1]; omega
  · by_cases q2 : v < 100
    · rw [if_neg q1, if_pos q2]; omega
    · by_cases q3 : v < 1000
      · rw [if_neg q1, if_neg q2, if_pos q3]; omega
      · by_cases q4 : v < 10000
        · rw [if_neg q1, if_neg q2, if_neg q3, if_pos q4]; omega
        · rw [if_neg q1, if_neg q2, if_neg q3, if_neg q4]; omega
theorem lnN_in (v : Nat) : 1 ≤ lnN v ∧ lnN v ≤ 5 := by have := lnN_cases v; omega
theorem size_n {v : Nat} (h : v < 16000) : m_J6_stringSize_0f7a4 (nI v) = some (nI (lnN v)) := by
  have hl := lnN_in v
  have key : ∀ k, k < 5 → ((-nI v ≤ zI (-((10 ^ (k + 1) : Nat) : Int))) ↔ 10 ^ (k + 1) ≤ v) := by
    intro k hk
    have hp : 10 ^ (k + 1) ≤ 10 ^ 5 := Nat.pow_le_pow_right (by decide) (by omega)
    have hp5 : 10 ^ 5 = 100000 := by decide
    generalize 10 ^ (k + 1) = P at *
    rw [← zI_nat, zI_neg, zI_le (by omega) (by omega) (by omega) (by omega)]
    omega
  have e : lp (fun z : Int32 × Int32 => m_J6_stringSize_0f7a4_l16 (-nI v, 0) z.1 z.2) fu (-10, 1) = some (.inl (nI (lnN v))) := by
    refine lp_for (fun k => (zI (-((10 ^ (k + 1) : Nat) : Int)), nI (k + 1))) (lnN v - 1) (fun k hk => ?_) ?_ (by omega) rfl
    · show m_J6_stringSize_0f7a4_l16 (-nI v, 0) (zI _) (nI (k + 1)) = _
      unfold m_J6_stringSize_0f7a4_l16
      rw [if_neg (show ¬ (10 : Int32) ≤ nI (k + 1) from nI_ge (b := 10) (by omega) (by omega)), if_pos ((key k (by omega)).2 ?_), nI_1, show (10 : Int32) = zI 10 from rfl, zI_mul]
      · congr 4
        rw [Nat.pow_succ 10 (k + 1)]
        omega
      · have := lnN_cases v
        rcases (show k = 0 ∨ k = 1 ∨ k = 2 ∨ k = 3 by omega) with rfl | rfl | rfl | rfl <;> omega
    · show m_J6_stringSize_0f7a4_l16 (-nI v, 0) (zI _) (nI (lnN v - 1 + 1)) = _
      unfold m_J6_stringSize_0f7a4_l16
      rw [if_neg (show ¬ (10 : Int32) ≤ nI (lnN v - 1 + 1) from nI_ge (b := 10) (by omega) (by omega)), if_neg (fun e => ?_), show lnN v - 1 + 1 = lnN v by omega]
      have e := (key _ (by omega)).1 e
      rw [show lnN v - 1 + 1 = lnN v by omega] at e
      rcases lnN_cases v with ⟨q, q2⟩ | ⟨q, q2⟩ | ⟨q, q2⟩ | ⟨q, q2⟩ | ⟨q, q2⟩ <;> rw [q] at e <;> omega
  unfold m_J6_stringSize_0f7a4
  rw [if_neg (fun e => by rw [i_lt, z32, nI_toInt (by omega)] at e; omega), Option.bind_some, e, Option.bind_some]
  show some (nI (lnN v) + 0) = _
  rw [show (0 : Int32) = nI 0 from rfl, nI_add]
  rfl
def Rk (f : Nat → Int32) (v e k i : Nat) : Int32 := if e - k ≤ i ∧ i < e then nI (dgt v e i) else f i
theorem Rk_two (f : Nat → Int32) {v e k : Nat} (he : k + 2 ≤ e) : upd (upd (Rk f v e k) (e - k - 1) (nI (48 + v / 10 ^ k % 10))) (e - k - 2) (nI (48 + v / 10 ^ (k + 1) % 10)) = Rk f v e (k + 2) := by
  funext i
  unfold Rk
  by_cases q1 : i = e - k - 2
  · rw [q1, upd_at, if_pos ⟨by omega, by omega⟩]
    unfold dgt
    rw [show e - 1 - (e - k - 2) = k + 1 by omega]
  · rw [upd_ne q1]
    by_cases q2 : i = e - k - 1
    · rw [q2, upd_at, if_pos ⟨by omega, by omega⟩]
      unfold dgt
      rw [show e - 1 - (e - k - 1) = k by omega]
    · rw [upd_ne q2]
      by_cases q3 : e - k ≤ i ∧ i < e
      · rw [if_pos q3, if_pos ⟨by omega, by omega⟩]
      · rw [if_neg q3, if_neg (by omega)]
theorem Rk_one (f : Nat → Int32) {v e k : Nat} (he : k + 1 ≤ e) : upd (Rk f v e k) (e - k - 1) (nI (48 + v / 10 ^ k % 10)) = Rk f v e (k + 1) := by
  funext i
  unfold Rk
  by_cases q2 : i = e - k - 1
  · rw [q2, upd_at, if_pos ⟨by omega, by omega⟩]
    unfold dgt
    rw [show e - 1 - (e - k - 1) = k by omega]
  · rw [upd_ne q2]
    by_cases q3 : e - k ≤ i ∧ i < e
    · rw [if_pos q3, if_pos ⟨by omega, by omega⟩]
    · rw [if_neg q3, if_neg (by omega)]
theorem nar_d : ∀ r, r < 100 → vp_nar .byte (dgO r) = nI (48 + r % 10) ∧ vp_nar .byte (dgT r) = nI (48 + r / 10) := by decide +kernel
