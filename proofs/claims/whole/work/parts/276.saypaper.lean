-- what is said of a paper
def dfu (m u d : Nat) : Int := (u : Int) - (m : Int) * (d : Int)
theorem dfu_bd {m u d : Nat} (hm : m ≤ 118) (hd : d ≤ 126) (hu : u ≤ 118 * d) : -14868 ≤ dfu m u d ∧ dfu m u d ≤ 14868 := by
  have h1 : m * d ≤ 118 * d := Nat.mul_le_mul_right d hm
  unfold dfu
  have e : (m : Int) * (d : Int) = ((m * d : Nat) : Int) := (Int.natCast_mul m d).symm
  rw [e]
  omega
theorem dfu_gcd {m u d : Nat} (hc : Nat.Coprime u d) : Nat.gcd (dfu m u d).natAbs d = 1 := by
  have g1 : Nat.gcd (dfu m u d).natAbs d ∣ d := Nat.gcd_dvd_right _ _
  have g2 : Nat.gcd (dfu m u d).natAbs d ∣ (dfu m u d).natAbs := Nat.gcd_dvd_left _ _
  have g3 : ((Nat.gcd (dfu m u d).natAbs d : Nat) : Int) ∣ dfu m u d := Int.ofNat_dvd_left.2 g2
  have g4 : ((Nat.gcd (dfu m u d).natAbs d : Nat) : Int) ∣ (d : Int) := Int.natCast_dvd_natCast.2 g1
  have g5 : ((Nat.gcd (dfu m u d).natAbs d : Nat) : Int) ∣ (u : Int) := by
    have e : (u : Int) = dfu m u d + (m : Int) * (d : Int) := by unfold dfu; omega
    rw [e]
    exact Int.dvd_add g3 (Int.dvd_trans g4 (Int.dvd_mul_left _ _))
  have g6 : Nat.gcd (dfu m u d).natAbs d ∣ u := Int.natCast_dvd_natCast.1 g5
  have g7 := Nat.dvd_gcd g6 g1
  rw [show Nat.gcd u d = 1 from hc] at g7
  exact Nat.dvd_one.1 g7
theorem dfu_0 {m u d : Nat} (hc : Nat.Coprime u d) (h : dfu m u d = 0) : d = 1 := by
  have g := dfu_gcd (m := m) hc
  rw [h] at g
  simpa using g
theorem frac_say (s : T10) {m u d : Nat} (hm : m ≤ 118) (hd0 : 1 ≤ d) (hd : d ≤ 126) (hu : u ≤ 118 * d) (hc : Nat.Coprime u d) : m_X10_fraction s ((nI u).toInt64 - (nI m).toInt64 * (nI d).toInt64) (nI d).toInt64 = some (J (dfu m u d), J (d : Int)) := by
  have b := dfu_bd hm hd hu
  have hu2 : u ≤ 14868 := by omega
  rw [nI_64 (by omega), nI_64 (by omega), nI_64 (by omega), J_mul, J_sub]
  show m_X10_fraction s (J (dfu m u d)) (J (d : Int)) = _
  obtain ⟨e1, e2⟩ := mkRat_parts (x := dfu m u d) (d := d) (by omega)
  rw [fraction10 s (x := dfu m u d) (d := d) ⟨by omega, by omega⟩ (by omega) (rng_nat (by omega)), e1, e2, dfu_gcd hc, Nat.div_one, Int.natCast_one, Int.ediv_one]
-- the difference of the class, in 32 bits
theorem diff_say {m u d : Nat} (hm : m ≤ 118) (hd : d ≤ 126) (hu : u ≤ 118 * d) : (nI u).toInt64.toInt32 - (nI m * (nI d).toInt64.toInt32) = zI (dfu m u d) := by
  rw [nI_64 (by omega), nI_64 (by omega), J_32, J_32, ← zI_nat, zI_mul, zI_sub]
  rfl
def sgn3 (x : Int) : Nat := if x = 0 then 61 else if x ≤ 0 then 45 else 43
def sayL (p m u d g : Nat) : List Nat := DGv p ++ [58] ++ DGv m ++ [sgn3 (dfu m u d)] ++ (if dfu m u d = 0 then [] else DGv (dfu m u d).natAbs) ++ (if d = 1 then [] else [47] ++ DGv d) ++ [32] ++ [65 + g]
theorem sayL_len {p m u d g : Nat} (hp : p < 7) (hm : m ≤ 118) (hd : d ≤ 126) : (sayL p m u d g).length ≤ 17 := by
  have l1 := lnN_cases p
  have l2 := lnN_cases m
  have l3 := lnN_in (dfu m u d).natAbs
  have l4 := lnN_cases d
  unfold sayL
  rw [List.length_append, List.length_append, List.length_append, List.length_append, List.length_append, List.length_append, List.length_append, DGv_len, DGv_len]
  have h1 : (if dfu m u d = 0 then [] else DGv (dfu m u d).natAbs).length ≤ 5 := by
    split
    · exact Nat.zero_le _
    · rw [DGv_len]; omega
  have h2 : (if d = 1 then [] else [47] ++ DGv d).length ≤ 4 := by
    split
    · exact Nat.zero_le _
    · rw [List.length_append, DGv_len]
      show 1 + lnN d ≤ 4
      omega
  show lnN p + 1 + lnN m + 1 + _ + _ + 1 + 1 ≤ 17
  omega
