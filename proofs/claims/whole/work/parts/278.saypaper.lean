-- one sign, one number, in the class's order
theorem say_sgn {x : Int} (h1 : -14868 ≤ x) (h2 : x ≤ 14868) : (if zI x = 0 then (some 61 : Option Int32) else if zI x ≤ 0 then some 45 else some 43) = some (nI (sgn3 x)) := by
  have e0 : zI x = 0 ↔ x = 0 := by
    rw [i_eq, zI_int (by omega) (by omega), z32]
  have e1 : zI x ≤ 0 ↔ x ≤ 0 := by
    rw [i_le, zI_int (by omega) (by omega), z32]
  unfold sgn3
  by_cases q : x = 0
  · rw [if_pos (e0.2 q), if_pos q]; rfl
  · by_cases q2 : x ≤ 0
    · rw [if_neg (fun k => q (e0.1 k)), if_pos (e1.2 q2), if_neg q, if_pos q2]; rfl
    · rw [if_neg (fun k => q (e0.1 k)), if_neg (fun k => q2 (e1.1 k)), if_neg q, if_neg q2]; rfl
theorem say_abs {x : Int} (h1 : -14868 ≤ x) (h2 : x ≤ 14868) : (if 0 ≤ zI x then zI x else 0 - zI x) = nI x.natAbs := by
  have e1 : 0 ≤ zI x ↔ 0 ≤ x := by rw [i_le, zI_int (by omega) (by omega), z32]
  by_cases q : 0 ≤ x
  · rw [if_pos (e1.2 q), ← zI_nat]
    congr 1
    omega
  · rw [if_neg (fun k => q (e1.1 k)), show (0 : Int32) = zI 0 from rfl, zI_sub, ← zI_nat]
    congr 1
    omega
theorem say_65 : ∀ g, g < 6 → ((65 + nI g).toUInt32 % 65536).toInt32 = nI (65 + g) ∧ (65 : Int32) + nI g = nI (65 + g) := by decide +kernel
