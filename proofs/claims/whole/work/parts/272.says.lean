-- the reference's signs
def SDc (r : Nat → Int32) (n : Int32) (k : Nat) (c : Nat → Nat) : Prop := n = nI k ∧ k ≤ 60 ∧ ∀ i, i < k → r i = nI (c i)
theorem say10 {s : T10} {k : Nat} {c : Nat → Nat} (h : SDc (p10_said s) (p10_saids s) k c) (hk : k < 60) (a : Nat) : ∃ r, m_X10_say s (nI a) = some (r, nI (k + 1)) ∧ SDc r (nI (k + 1)) (k + 1) (fun i => if i = k then a else c i) := by
  obtain ⟨h1, h2, h3⟩ := h
  refine ⟨upd (p10_said s) k (nI a), ?_, rfl, by omega, fun i hi => ?_⟩
  · unfold m_X10_say
    rw [h1, if_pos (inb_nI (by omega) (by decide)), nI_clamp (by omega), nI_1]
  · dsimp only
    by_cases e : i = k
    · rw [if_pos e, e, upd_at]
    · rw [upd_ne e, if_neg e]; exact h3 i (by omega)
theorem J_ndiv {a b : Nat} (ha : a < 2 ^ 40) (hb : b < 2 ^ 40) (h : 0 < b) : J (a : Int) / J (b : Int) = J ((a / b : Nat) : Int) := by
  rw [J_tdiv (rng_nat (by omega)) (rng_nat (by omega)) (by omega)]
  congr 1
def pwr (v j : Nat) : Nat := if j < lnN v then 10 ^ (lnN v - 1 - j) else 0
theorem pwr_in (v j : Nat) : pwr v j ≤ 10000 := by
  have := lnN_in v
  unfold pwr
  split
  · have := Nat.pow_le_pow_right (n := 10) (by decide) (show lnN v - 1 - j ≤ 4 by omega)
    have e : 10 ^ 4 = 10000 := by decide
    omega
  · omega
theorem pwr_next (v : Nat) {j : Nat} (h : j < lnN v) : pwr v j / 10 = pwr v (j + 1) := by
  unfold pwr
  rw [if_pos h]
  by_cases q : j + 1 < lnN v
  · rw [if_pos q, show lnN v - 1 - j = (lnN v - 1 - (j + 1)) + 1 by omega, Nat.pow_succ, Nat.mul_div_cancel _ (by decide)]
  · rw [if_neg q, show lnN v - 1 - j = 0 by omega]
def Rn (f : Nat → Int32) (v k L j i : Nat) : Int32 := if k ≤ i ∧ i < k + j then nI (dgt v (k + L) i) else f i
theorem num_say {s : T10} {k : Nat} {c : Nat → Nat} (h : SDc (p10_said s) (p10_saids s) k c) {v : Nat} (hv : v < 16000) (hk : k + lnN v ≤ 60) : ∃ r, m_X10_sayNumber s (J (v : Int)) = some (r, nI (k + lnN v)) ∧ SDc r (nI (k + lnN v)) (k + lnN v) (fun i => if i < k then c i else dgt v (k + lnN v) i) := by
  obtain ⟨h1, h2, h3⟩ := h
  have hc := lnN_cases v
  have hl := lnN_in v
  have pk : ∀ k, k < 5 → 10 ^ k ≤ 10000 ∧ 0 < 10 ^ k := fun k hk => ⟨by
    have := Nat.pow_le_pow_right (n := 10) (by decide) (show k ≤ 4 by omega)
    have e : 10 ^ 4 = 10000 := by decide
    omega, Nat.pow_pos (by decide)⟩
  have e1 : lp (fun z : Int64 => m_X10_sayNumber_l2 (J (v : Int)) z) fu (1 : Int64) = some (J (((10 ^ (lnN v - 1) : Nat)) : Int)) := by
    refine lp_for (fun k => J ((10 ^ k : Nat) : Int)) (lnN v - 1) (fun k hk => ?_) ?_ (by omega) rfl
    · show m_X10_sayNumber_l2 _ (J ((10 ^ k : Nat) : Int)) = _
      have := pk k (by omega)
      unfold m_X10_sayNumber_l2
      rw [if_pos (J_ne0 (rng_nat (by omega)) (by omega)), J_ndiv (by omega) (by omega) this.2, if_neg, show (10 : Int64) = J 10 from rfl, J_mul]
      · congr 3
      · have h9 : 10 ≤ v / 10 ^ k := by
          rcases (show k = 0 ∨ k = 1 ∨ k = 2 ∨ k = 3 by omega) with rfl | rfl | rfl | rfl <;> omega
        have hle := Nat.div_le_self v (10 ^ k)
        rw [show (9 : Int64) = J 9 from rfl, J_le (rng_nat (by omega)) ⟨by decide, by decide⟩]
        omega
    · show m_X10_sayNumber_l2 _ (J ((10 ^ (lnN v - 1) : Nat) : Int)) = _
      have := pk (lnN v - 1) (by omega)
      unfold m_X10_sayNumber_l2
      rw [if_pos (J_ne0 (rng_nat (by omega)) (by omega)), J_ndiv (by omega) (by omega) this.2, if_pos]
      have h9 : v / 10 ^ (lnN v - 1) ≤ 9 := by
        rcases hc with ⟨q, q2⟩ | ⟨q, q2⟩ | ⟨q, q2⟩ | ⟨q, q2⟩ | ⟨q, q2⟩ <;> rw [q] <;> omega
      rw [show (9 : Int64) = J 9 from rfl, J_le (rng_nat (by omega)) ⟨by decide, by decide⟩]
      omega
  have e2 : lp (fun z : Int64 × (Nat → Int32) × Int32 => m_X10_sayNumber_l21 s (J (v : Int)) z.1 z.2.1 z.2.2) fu (J (((10 ^ (lnN v - 1) : Nat)) : Int), p10_said s, p10_saids s) = some (Rn (p10_said s) v k (lnN v) (lnN v), nI (k + lnN v)) := by
    refine lp_for (fun j => (J ((pwr v j : Nat) : Int), Rn (p10_said s) v k (lnN v) j, nI (k + j))) (lnN v) (fun j hj => ?_) ?_ (by omega) ?_
    · show m_X10_sayNumber_l21 s _ (J ((pwr v j : Nat) : Int)) (Rn (p10_said s) v k (lnN v) j) (nI (k + j)) = _
      have hp := pwr_in v j
      have hp0 : 0 < pwr v j := by unfold pwr; rw [if_pos hj]; exact Nat.pow_pos (by decide)
      have hle := Nat.div_le_self v (pwr v j)
      unfold m_X10_sayNumber_l21 m_X10_say
      rw [if_neg (by rw [show (0 : Int64) = J 0 from rfl, J_le (rng_nat (by omega)) rng0]; omega), if_pos (J_ne0 (rng_nat (by omega)) (by omega)), J_ndiv (by omega) (by omega) hp0, show (10 : Int64) = J ((10 : Nat) : Int) from rfl, J_rem (rng_nat (by omega)) (rng_nat (by omega)) (by decide), J_32, zI_nat, show (48 : Int32) = nI 48 from rfl, nI_add, show p10_saids (u10_saids (nI (k + j)) (u10_said (Rn (p10_said s) v k (lnN v) j) s)) = nI (k + j) from rfl, if_pos (inb_nI (by omega) (by decide)), Option.bind_some, nI_clamp (by omega), nI_1, J_ndiv (by omega) (by omega) (by decide), pwr_next v hj]
      show some (Sum.inl (J _, upd (Rn (p10_said s) v k (lnN v) j) (k + j) (nI (48 + v / pwr v j % 10)), nI (k + j + 1))) = some (Sum.inl (J _, Rn (p10_said s) v k (lnN v) (j + 1), nI (k + (j + 1))))
      congr 4
      funext i
      unfold Rn
      by_cases e : i = k + j
      · rw [e, upd_at, if_pos ⟨by omega, by omega⟩]
        unfold dgt pwr
        rw [if_pos hj, show k + lnN v - 1 - (k + j) = lnN v - 1 - j by omega]
      · rw [upd_ne e]
        by_cases q : k ≤ i ∧ i < k + j
        · rw [if_pos q, if_pos ⟨by omega, by omega⟩]
        · rw [if_neg q, if_neg (by omega)]
    · show m_X10_sayNumber_l21 s _ (J ((pwr v (lnN v) : Nat) : Int)) (Rn (p10_said s) v k (lnN v) (lnN v)) (nI (k + lnN v)) = _
      unfold m_X10_sayNumber_l21
      rw [show pwr v (lnN v) = 0 from if_neg (Nat.lt_irrefl _), if_pos (show J ((0 : Nat) : Int) ≤ 0 by decide)]
    · rw [h1]
      congr 2
      · unfold pwr
        rw [if_pos (by omega), Nat.sub_zero]
      · congr 1
        funext i
        unfold Rn
        rw [if_neg (by omega)]
  refine ⟨Rn (p10_said s) v k (lnN v) (lnN v), ?_, rfl, hk, fun i hi => ?_⟩
  · unfold m_X10_sayNumber
    rw [e1, Option.bind_some, e2, Option.bind_some]
  · dsimp only
    unfold Rn
    by_cases q : i < k
    · rw [if_neg (by omega), if_pos q]; exact h3 i q
    · rw [if_pos ⟨by omega, hi⟩, if_neg q]
