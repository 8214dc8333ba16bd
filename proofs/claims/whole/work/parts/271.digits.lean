-- the signs of a number, written from the right
theorem nI_m1 {x : Nat} (h : 1 ≤ x) : nI x + (-1) = nI (x - 1) := by
  rw [← zI_nat, ← zI_nat, show (-1 : Int32) = zI (-1) from rfl]
  show Int32.ofInt _ + Int32.ofInt _ = Int32.ofInt _
  rw [← Int32.ofInt_add]
  congr 1
  omega
theorem neg_zI (w : Nat) : -zI (-(w : Int)) = nI w := by rw [zI_neg, Int.neg_neg, zI_nat]
theorem l22_go {m : Nat} {f R : Nat → Int32} {w x : Nat} (hw : 100 ≤ w) (hw2 : w < 16000) (hx : 2 ≤ x) (hm : x ≤ m) (hm2 : m ≤ 300) : m_J6_getChars_ba4f3_l22 (m, f) (zI (-(w : Int))) (nI x) R = some (.inl (zI (-((w / 100 : Nat) : Int)), nI (x - 2), upd (upd R (x - 1) (nI (48 + w % 10))) (x - 2) (nI (48 + w / 10 % 10)))) := by
  have e : zI (-((w / 100 : Nat) : Int)) * 100 - zI (-(w : Int)) = nI (w % 100) := by
    rw [show (100 : Int32) = zI 100 from rfl, zI_mul, zI_sub, ← zI_nat]
    congr 1
    omega
  unfold m_J6_getChars_ba4f3_l22
  rw [if_neg (show ¬ (-100 : Int32) < zI (-(w : Int)) from fun e => by rw [show (-100 : Int32) = zI (-100) from rfl, zI_lt (by omega) (by omega) (by omega) (by omega)] at e; omega), zI_div100 (by omega), e, nI_m1 (x := x) (by omega), nI_m1 (x := x - 1) (by omega), if_pos (inb_nI (by omega) (by omega)), if_pos (inb_nI (show x - 1 < pBA_m (m, f) by show x - 1 < m; omega) (by show m < 2 ^ 31; omega)), if_pos (inb_nI (by omega) (by omega)), if_pos (inb_nI (show x - 1 - 1 < pBA_m (m, f) by show x - 1 - 1 < m; omega) (by show m < 2 ^ 31; omega)), nI_clamp (n := x - 1) (by omega), nI_clamp (n := x - 1 - 1) (by omega), nI_clamp (n := w % 100) (by omega), (nar_d _ (by omega)).1, (nar_d _ (by omega)).2, show x - 1 - 1 = x - 2 by omega, show w % 100 % 10 = w % 10 by omega, show w % 100 / 10 = w / 10 % 10 by omega]
theorem l22_end {m : Nat} {f R : Nat → Int32} {w x : Nat} (hw : w < 100) : m_J6_getChars_ba4f3_l22 (m, f) (zI (-(w : Int))) (nI x) R = some (.inr (zI (-(w : Int)), nI x, R)) := by
  unfold m_J6_getChars_ba4f3_l22
  rw [if_pos (by rw [show (-100 : Int32) = zI (-100) from rfl, zI_lt (by omega) (by omega) (by omega) (by omega)]; omega)]
theorem pw2 (v k : Nat) : v / 10 ^ (2 * k) = v / 100 ^ k ∧ v / 10 ^ (2 * k + 1) = v / 100 ^ k / 10 ∧ v / 100 ^ (k + 1) = v / 100 ^ k / 100 := by
  have e : 10 ^ (2 * k) = 100 ^ k := by rw [Nat.pow_mul]
  refine ⟨by rw [e], ?_, ?_⟩
  · rw [Nat.pow_succ, e, Nat.div_div_eq_div_mul]
  · rw [Nat.pow_succ, Nat.div_div_eq_div_mul]
def stD (f : Nat → Int32) (v e k : Nat) : Int32 × Int32 × (Nat → Int32) := (zI (-((v / 100 ^ k : Nat) : Int)), nI (e - 2 * k), Rk f v e (2 * k))
theorem chars_n {m v e : Nat} {f : Nat → Int32} (hv : v < 16000) (hm : e ≤ m) (hm2 : m ≤ 300) (he : lnN v ≤ e) : m_J6_getChars_ba4f3 (m, f) (nI v) (nI e) = some (nI (e - lnN v), Rk f v e (lnN v)) := by
  have hc := lnN_cases v
  have hN : ∃ N, N ≤ 2 ∧ (∀ k, k < N → 100 ≤ v / 100 ^ k ∧ v / 100 ^ k < 16000) ∧ v / 100 ^ N < 100 ∧ (v / 100 ^ N < 10 ∧ lnN v = 2 * N + 1 ∨ 10 ≤ v / 100 ^ N ∧ lnN v = 2 * N + 2) := by
    rcases hc with ⟨q, q2⟩ | ⟨q, q2⟩ | ⟨q, q2⟩ | ⟨q, q2⟩ | ⟨q, q2⟩
    · exact ⟨0, by omega, fun k hk => absurd hk (Nat.not_lt_zero k), by omega, by omega⟩
    · exact ⟨0, by omega, fun k hk => absurd hk (Nat.not_lt_zero k), by omega, by omega⟩
    · exact ⟨1, by omega, fun k hk => by rw [show k = 0 by omega]; omega, by omega, by omega⟩
    · exact ⟨1, by omega, fun k hk => by rw [show k = 0 by omega]; omega, by omega, by omega⟩
    · refine ⟨2, by omega, fun k hk => ?_, by omega, by omega⟩
      rcases (show k = 0 ∨ k = 1 by omega) with rfl | rfl <;> omega
  obtain ⟨N, n1, n2, n3, n4⟩ := hN
  have hd : ∀ k, v / 10 ^ (2 * k) % 10 = v / 100 ^ k % 10 ∧ v / 10 ^ (2 * k + 1) % 10 = v / 100 ^ k / 10 % 10 := fun k => ⟨by rw [(pw2 v k).1], by rw [(pw2 v k).2.1]⟩
  have key : lp (fun z : Int32 × Int32 × (Nat → Int32) => m_J6_getChars_ba4f3_l22 (m, f) z.1 z.2.1 z.2.2) fu (-nI v, nI e, f) = some (stD f v e N) := by
    refine lp_for (stD f v e) N (fun k hk => ?_) ?_ (by omega) ?_
    · show m_J6_getChars_ba4f3_l22 (m, f) (zI _) (nI (e - 2 * k)) (Rk f v e (2 * k)) = _
      rw [l22_go (n2 k hk).1 (n2 k hk).2 (by omega) (by omega) hm2, ← (pw2 v k).2.2, ← (hd k).1, ← (hd k).2, show e - 2 * k - 1 = e - (2 * k) - 1 from rfl, Rk_two f (show 2 * k + 2 ≤ e by omega)]
      rfl
    · exact l22_end n3
    · unfold stD
      rw [Nat.pow_zero, Nat.div_one, ← zI_neg, zI_nat]
      congr 2
      funext i
      unfold Rk
      rw [if_neg (by omega)]
  unfold m_J6_getChars_ba4f3
  rw [if_pos (by rw [i_le, z32, nI_toInt (by omega)]; omega), Option.bind_some, if_pos rfl, Option.bind_some]
  show Option.bind (lp (fun z : Int32 × Int32 × (Nat → Int32) => m_J6_getChars_ba4f3_l22 (m, f) z.1 z.2.1 z.2.2) fu (-nI v, nI e, f)) _ = _
  rw [key, Option.bind_some]
  unfold stD
  dsimp only
  rw [neg_zI, if_pos (inb_nI n3 (by decide)), nI_m1 (by omega), if_pos (inb_nI (show e - 2 * N - 1 < m by omega) (by omega)), nI_clamp (n := v / 100 ^ N) (by omega), nI_clamp (n := e - 2 * N - 1) (by omega), (nar_d _ n3).1]
  have g1 := (hd N).1
  have g2 := (hd N).2
  clear hd n2 key
  generalize v / 100 ^ N = W at *
  rcases n4 with ⟨n4, n5⟩ | ⟨n4, n5⟩
  · rw [if_pos (by rw [show (-9 : Int32) = zI (-9) from rfl, zI_le (by omega) (by omega) (by omega) (by omega)]; omega), Option.bind_some, if_pos rfl, ← g1, Rk_one f (show 2 * N + 1 ≤ e by omega), n5]
    rfl
  · rw [if_neg (by rw [show (-9 : Int32) = zI (-9) from rfl, zI_le (by omega) (by omega) (by omega) (by omega)]; omega), if_pos (inb_nI n3 (by decide)), nI_m1 (x := e - 2 * N - 1) (by omega), if_pos (inb_nI (show e - 2 * N - 1 - 1 < m by omega) (by omega)), Option.bind_some, if_pos rfl, nI_clamp (n := e - 2 * N - 1 - 1) (by omega), (nar_d _ n3).2, show W / 10 = W / 10 % 10 by omega, ← g1, ← g2, show e - 2 * N - 1 - 1 = e - 2 * N - 2 by omega, Rk_two f (show 2 * N + 2 ≤ e by omega), n5]
    rfl
theorem app_n {b : TSB} {k : Nat} {c : Nat → Nat} (h : TXc (pSB_m b) (pSB_f b) (pSB_n b) k c) {v : Nat} (hv : v < 16000) (hk : k + lnN v ≤ 60) : ∃ m f, m_J4_append_bf812 b (nI v) = some (m, f, nI (k + lnN v)) ∧ TXc m f (nI (k + lnN v)) (k + lnN v) (fun i => if i < k then c i else dgt v (k + lnN v) i) := by
  obtain ⟨m', f', e, hm, t1, t2, t3, t4, t5, t6, t7⟩ := ens_tx h (q := k + lnN v) (by omega)
  refine ⟨m', Rk f' v (k + lnN v) (lnN v), ?_, rfl, hk, hm, t4, t5, ?_, ?_⟩
  · unfold m_J4_append_bf812 m_J5_append_c97b9 m_J5_isLatin1_aae02
    rw [size_n hv, Option.bind_some, t1, nI_add, e, Option.bind_some, if_neg (by decide), if_pos rfl, Option.bind_some, if_neg (by decide)]
    show Option.bind (Option.bind (m_J6_getChars_ba4f3 (m', f') (nI v) (nI (k + lnN v))) _) _ = _
    rw [chars_n hv hm (by omega) (by omega)]
    rfl
  · refine List.all_eq_true.2 (fun j hj => ?_)
    unfold Rk
    by_cases q : k + lnN v - lnN v ≤ j ∧ j < k + lnN v
    · rw [if_pos q]; exact fitB _ (by unfold dgt; omega)
    · rw [if_neg q]; exact fitAll_at t6 (List.mem_range.1 hj)
  · intro i hi
    dsimp only
    unfold Rk
    by_cases q : i < k
    · rw [if_neg (by omega), if_pos q]; exact t7 i q
    · rw [if_pos ⟨by omega, hi⟩, if_neg q]; exact ⟨rfl, by unfold dgt; omega⟩
