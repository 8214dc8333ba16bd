-- the class's text of a paper, said
theorem grd_6 {A : Sh} (hok : okS A) (n d : Int64) : grd A n d (hB A) < 6 := by
  have := grd_le A n d (hB A)
  have := hok.2.2.1.1
  omega
theorem sayPaper9 {s9 : T9} {A : Sh} (h6 : S6 (p9_now s9) A) (hok : okS A) (rB : RelB s9) (rS : sbInv (p9_said s9)) {p : Nat} (hp : p < hN A) : ∃ (r : T16) (m : Nat) (f : Nat → Int32) (q n : Int32), m_X9_sayPaper s9 (nI p) = some (r.1, r.2.1, r.2.2.1, r.2.2.2.1, r.2.2.2.2.1, r.2.2.2.2.2.1, r.2.2.2.2.2.2.1, r.2.2.2.2.2.2.2.1, r.2.2.2.2.2.2.2.2.1, r.2.2.2.2.2.2.2.2.2.1, r.2.2.2.2.2.2.2.2.2.2.1, r.2.2.2.2.2.2.2.2.2.2.2.1, r.2.2.2.2.2.2.2.2.2.2.2.2.1, r.2.2.2.2.2.2.2.2.2.2.2.2.2.1, r.2.2.2.2.2.2.2.2.2.2.2.2.2.2.1, r.2.2.2.2.2.2.2.2.2.2.2.2.2.2.2, m, f, q, n) ∧ TXl m f n (txtP A p) ∧ (r.2.2.2.2.2.2.2.2.2.2.2.2.2.1 0 = 0 ∧ r.2.2.2.2.2.2.2.2.2.2.2.2.2.2.1 0 = 0 ∧ r.2.2.2.2.2.2.2.2.2.2.2.2.2.2.2 0 = 0) := by
  have n7 := hok.1.1
  obtain ⟨r, r1, r2, r3⟩ := rules9 h6 hok rB (l := 0) (by decide)
  have r1 : m_X0_work (p9_byRules s9) (p9_now s9) 0 0 = some r := r1
  obtain ⟨_, _, m0, f0, q0, e0, t0⟩ := sbT rS
  obtain ⟨v1, v2, v3, v4⟩ := val_bd hok (l := 0) (by decide) (W := 0) hp
  have hm := mkA_le hok hp
  have hg := grd_6 hok (nI (vU A 0 0 p)).toInt64 (nI (vD A 0 0 p)).toInt64
  have b := dfu_bd hm v2 v3
  have l1 := lnN_cases p
  have l2 := lnN_cases (mkA A p)
  have l3 := lnN_in (dfu (mkA A p) (vU A 0 0 p) (vD A 0 0 p)).natAbs
  have l4 := lnN_cases (vD A 0 0 p)
  obtain ⟨n0, hn0⟩ : ∃ n0 : Int32, n0 = 0 := ⟨0, rfl⟩
  rw [← hn0] at t0
  obtain ⟨m1, f1, n1, e1, t1⟩ := tx_n (b := (uSB_n n0 (uSB_l q0 (uSB_f f0 (uSB_m m0 (p9_said s9)))))) t0 (v := p) (by omega) (by simp only [List.length_append, List.length_nil, List.length_cons, DGv_len]; omega)
  obtain ⟨m2, f2, n2, e2, t2⟩ := tx_c (b := (uSB_n n1 (uSB_l q0 (uSB_f f1 (uSB_m m1 (p9_said s9)))))) t1 (by simp only [List.length_append, List.length_nil, List.length_cons, DGv_len]; omega) (a := 58) (by decide)
  obtain ⟨m3, f3, n3, e3, t3⟩ := tx_n (b := (uSB_n n2 (uSB_l q0 (uSB_f f2 (uSB_m m2 (p9_said s9)))))) t2 (v := mkA A p) (by omega) (by simp only [List.length_append, List.length_nil, List.length_cons, DGv_len]; omega)
  obtain ⟨m4, f4, n4, e4, t4⟩ := tx_c (b := (uSB_n n3 (uSB_l q0 (uSB_f f3 (uSB_m m3 (p9_said s9)))))) t3 (by simp only [List.length_append, List.length_nil, List.length_cons, DGv_len]; omega) (a := sgn3 (dfu (mkA A p) (vU A 0 0 p) (vD A 0 0 p))) (by unfold sgn3; split; decide; split <;> decide)
  have h5 : ∃ m5 f5 n5, (if zI (dfu (mkA A p) (vU A 0 0 p) (vD A 0 0 p)) = 0 then some (m4, f4, n4) else (some (if 0 ≤ zI (dfu (mkA A p) (vU A 0 0 p) (vD A 0 0 p)) then zI (dfu (mkA A p) (vU A 0 0 p) (vD A 0 0 p)) else 0 - zI (dfu (mkA A p) (vU A 0 0 p) (vD A 0 0 p)))).bind fun x39 => (m_J4_append_bf812 (uSB_n n4 (uSB_l q0 (uSB_f f4 (uSB_m m4 (p9_said s9))))) x39).bind fun x40 => some (x40.1, x40.2.1, x40.2.2)) = some (m5, f5, n5) ∧ TXl m5 f5 n5 ([] ++ DGv p ++ [58] ++ DGv (mkA A p) ++ [sgn3 (dfu (mkA A p) (vU A 0 0 p) (vD A 0 0 p))] ++ (if dfu (mkA A p) (vU A 0 0 p) (vD A 0 0 p) = 0 then [] else DGv (dfu (mkA A p) (vU A 0 0 p) (vD A 0 0 p)).natAbs)) := by
    have ez : zI (dfu (mkA A p) (vU A 0 0 p) (vD A 0 0 p)) = 0 ↔ dfu (mkA A p) (vU A 0 0 p) (vD A 0 0 p) = 0 := by
      rw [i_eq, zI_int (by omega) (by omega), z32]
    by_cases c : dfu (mkA A p) (vU A 0 0 p) (vD A 0 0 p) = 0
    · rw [if_pos (ez.2 c), if_pos c, List.append_nil]
      exact ⟨m4, f4, n4, rfl, t4⟩
    · rw [if_neg (fun k => c (ez.1 k)), if_neg c, say_abs b.1 b.2, Option.bind_some]
      obtain ⟨m, f, n, e, t⟩ := tx_n (b := (uSB_n n4 (uSB_l q0 (uSB_f f4 (uSB_m m4 (p9_said s9)))))) t4 (v := (dfu (mkA A p) (vU A 0 0 p) (vD A 0 0 p)).natAbs) (by omega) (by simp only [List.length_append, List.length_nil, List.length_cons, DGv_len]; omega)
      exact ⟨m, f, n, by rw [e, Option.bind_some], t⟩
  obtain ⟨m5, f5, n5, e5, t5⟩ := h5
  have k5 : ([] ++ DGv p ++ [58] ++ DGv (mkA A p) ++ [sgn3 (dfu (mkA A p) (vU A 0 0 p) (vD A 0 0 p))] ++ (if dfu (mkA A p) (vU A 0 0 p) (vD A 0 0 p) = 0 then [] else DGv (dfu (mkA A p) (vU A 0 0 p) (vD A 0 0 p)).natAbs) : List Nat).length ≤ 11 := by
    by_cases c : dfu (mkA A p) (vU A 0 0 p) (vD A 0 0 p) = 0
    · rw [if_pos c]; simp only [List.length_append, List.length_nil, List.length_cons, DGv_len]; omega
    · rw [if_neg c]; simp only [List.length_append, List.length_nil, List.length_cons, DGv_len]; omega
  generalize hL5 : ([] ++ DGv p ++ [58] ++ DGv (mkA A p) ++ [sgn3 (dfu (mkA A p) (vU A 0 0 p) (vD A 0 0 p))] ++ (if dfu (mkA A p) (vU A 0 0 p) (vD A 0 0 p) = 0 then [] else DGv (dfu (mkA A p) (vU A 0 0 p) (vD A 0 0 p)).natAbs) : List Nat) = L5 at t5 k5
  have h6' : ∃ m6 f6 n6, (if nI (vD A 0 0 p) = 1 then some (m5, f5, n5) else (m_J4_append_cf468 (uSB_n n5 (uSB_l q0 (uSB_f f5 (uSB_m m5 (p9_said s9))))) 47).bind fun x35 => (m_J4_append_bf812 (uSB_n x35.2.2 (uSB_l q0 (uSB_f x35.2.1 (uSB_m x35.1 (p9_said s9))))) (nI (vD A 0 0 p))).bind fun x37 => some (x37.1, x37.2.1, x37.2.2)) = some (m6, f6, n6) ∧ TXl m6 f6 n6 (L5 ++ (if vD A 0 0 p = 1 then [] else [47] ++ DGv (vD A 0 0 p))) := by
    by_cases c : vD A 0 0 p = 1
    · rw [if_pos (show nI (vD A 0 0 p) = 1 by rw [c]; rfl), if_pos c, List.append_nil]
      exact ⟨m5, f5, n5, rfl, t5⟩
    · rw [if_neg (show ¬ nI (vD A 0 0 p) = 1 from fun k => c (nI_inj (b := 1) (by omega) (by decide) k)), if_neg c]
      obtain ⟨m, f, n, e, t⟩ := tx_c (b := (uSB_n n5 (uSB_l q0 (uSB_f f5 (uSB_m m5 (p9_said s9)))))) t5 (by omega) (a := 47) (by decide)
      obtain ⟨m', f', n', e', t'⟩ := tx_n (b := uSB_n n (uSB_l q0 (uSB_f f (uSB_m m (p9_said s9))))) t (v := vD A 0 0 p) (by omega) (by simp only [List.length_append, List.length_nil, List.length_cons, DGv_len]; omega)
      rw [← List.append_assoc]
      exact ⟨m', f', n', by rw [show (47 : Int32) = nI 47 from rfl, e, Option.bind_some]; dsimp only; rw [e', Option.bind_some], t'⟩
  obtain ⟨m6, f6, n6, e6, t6⟩ := h6'
  have k6 : (L5 ++ (if vD A 0 0 p = 1 then [] else [47] ++ DGv (vD A 0 0 p)) : List Nat).length ≤ 15 := by
    by_cases c : vD A 0 0 p = 1
    · rw [if_pos c]; simp only [List.length_append, List.length_nil, List.length_cons, DGv_len]; omega
    · rw [if_neg c]; simp only [List.length_append, List.length_nil, List.length_cons, DGv_len]; omega
  have tx : TXl m6 f6 n6 (L5 ++ (if vD A 0 0 p = 1 then [] else [47] ++ DGv (vD A 0 0 p))) := t6
  generalize hL6 : (L5 ++ (if vD A 0 0 p = 1 then [] else [47] ++ DGv (vD A 0 0 p)) : List Nat) = L6 at t6 k6
  obtain ⟨m7, f7, n7', e7, t7⟩ := tx_c (b := (uSB_n n6 (uSB_l q0 (uSB_f f6 (uSB_m m6 (p9_said s9)))))) t6 (by omega) (a := 32) (by decide)
  obtain ⟨m8, f8, n8, e8, t8⟩ := tx_c (b := uSB_n n7' (uSB_l q0 (uSB_f f7 (uSB_m m7 (p9_said s9))))) t7 (by simp only [List.length_append, List.length_nil, List.length_cons]; omega) (a := 65 + grP A p) (by unfold grP; omega)
  have hprd := prd_lt hok (b := sme A (vU A 0 0) (vD A 0 0)) (X := 2 ^ p) (Nat.pow_lt_pow_right (by decide) hp) (hN A)
  have h128 : 2 ^ hN A ≤ 2 ^ 7 := Nat.pow_le_pow_right (by decide) n7
  have h27 : (2 : Nat) ^ 7 = 128 := by decide
  have hdl := dif_le (prd A (sme A (vU A 0 0) (vD A 0 0)) (2 ^ p) (hN A)) (2 ^ p)
  obtain ⟨m9, f9, n9, e9, t9⟩ := others9 (s := u9_said (uSB_n n8 (uSB_l q0 (uSB_f f8 (uSB_m m8 (p9_said s9))))) (u9_byRules (stB (p9_byRules s9) r) s9)) (P := othP A p) (by unfold othP; omega) (by simp only [List.length_append, List.length_nil, List.length_cons]; omega) t8
  subst hn0
  refine ⟨r, m9, f9, q0, n9, ?_, ?_, r3⟩
  · unfold m_X9_sayPaper
    rw [r1, Option.bind_some, markOf6 h6 hok hp, Option.bind_some, partOf8 hok r2 hp, if_neg (by decide), Option.bind_some, partOf8 hok r2 hp, if_pos rfl, Option.bind_some, e0, Option.bind_some]
    dsimp only
    rw [e1, Option.bind_some]
    dsimp only
    rw [show (58 : Int32) = nI 58 from rfl, e2, Option.bind_some]
    dsimp only
    rw [e3, Option.bind_some, diff_say hm v2 v3, show (nI (vD A 0 0 p)).toInt64.toInt32 = nI (vD A 0 0 p) by rw [nI_64 (by omega), J_32, zI_nat], say_sgn b.1 b.2, Option.bind_some]
    dsimp only
    rw [e4, Option.bind_some]
    dsimp only
    rw [e5, Option.bind_some]
    dsimp only
    rw [e6, Option.bind_some]
    dsimp only
    rw [show (32 : Int32) = nI 32 from rfl, e7, Option.bind_some, gradeIn8 hok r2 h6 hp, Option.bind_some, (say_65 _ hg).1]
    dsimp only
    rw [show nI (65 + grd A (nI (vU A 0 0 p)).toInt64 (nI (vD A 0 0 p)).toInt64 (hB A)) = nI (65 + grP A p) from rfl, e8, Option.bind_some, pool8 hok r2 h6 hp, Option.bind_some, nI_shl1 p (by omega), nI_dif]
    dsimp only
    refine (congrArg (fun o => Option.bind o _) e9).trans ?_
    rw [Option.bind_some]
  · unfold txtP sayL
    rw [← hL6, ← hL5] at t9
    simpa only [List.nil_append, List.append_assoc] using t9
