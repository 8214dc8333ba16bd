-- the reference's text of a paper
theorem sayAll10 {s : T10} {A : Sh} (h10 : S10 s A) (hok : okS A) {p : Nat} (hp : p < hN A) : ∃ (a b : Int64) (g1 g2 g3 f : Nat → Int32) (n : Int32), m_X10_sayAll s (nI p) = some (a, b, g1, g2, g3, f, n) ∧ SDl f n (txtP A p) := by
  have n7 := hok.1.1
  have hz : S10 (u10_saids 0 s) A := h10
  obtain ⟨q, q1, q2⟩ := rules10 hz hok (l := 0) (by decide)
  have q1 : m_X10_values (u10_saids 0 s) 0 (nI (2 ^ hU A - 1)) = some q := q1
  have qa : m_X10_allRules (u10_saids 0 s) = some (nI (2 ^ hU A - 1)) := all10 hz hok
  obtain ⟨v1, v2, v3, v4⟩ := val_bd hok (l := 0) (by decide) (W := 0) hp
  have hm := mkA_le hok hp
  have hg := grd_6 hok (nI (vU A 0 0 p)).toInt64 (nI (vD A 0 0 p)).toInt64
  have b := dfu_bd hm v2 v3
  have l1 := lnN_cases p
  have l2 := lnN_cases (mkA A p)
  have l3 := lnN_in (dfu (mkA A p) (vU A 0 0 p) (vD A 0 0 p)).natAbs
  have l4 := lnN_cases (vD A 0 0 p)
  have ib : inb (nI p) 7 = true := inb_nI (by omega) (by decide)
  have ct : (nI p).toNatClampNeg = p := nI_clamp (by omega)
  have u1 : q.2.2.2.1 p = nI (vU A 0 0 p) := q2.2.1 p hp
  have u2 : q.2.2.2.2 p = nI (vD A 0 0 p) := q2.2.2 p hp
  have np : (nI p).toInt64 = J (p : Int) := nI_64 (by omega)
  have nm : (nI (mkA A p)).toInt64 = J (mkA A p : Int) := nI_64 (by omega)
  have t0 : SDl (p10_said s) 0 [] := ⟨rfl, by decide, fun i hi => absurd hi (Nat.not_lt_zero i)⟩
  obtain ⟨f1, n1, e1, t1⟩ := sd_n (s := u10_saids 0 (u10_valueDown q.2.2.2.2 (u10_valueUp q.2.2.2.1 (u10_beneath q.2.2.1 (u10_down q.2.1 (u10_up q.1 s)))))) t0 (v := p) (by omega) (by simp only [List.length_append, List.length_nil, List.length_cons, DGv_len]; omega)
  obtain ⟨f2, n2, e2, t2⟩ := sd_c (s := (u10_saids n1 (u10_said f1 (u10_valueDown q.2.2.2.2 (u10_valueUp q.2.2.2.1 (u10_beneath q.2.2.1 (u10_down q.2.1 (u10_up q.1 s)))))))) t1 (by simp only [List.length_append, List.length_nil, List.length_cons, DGv_len]; omega) 58
  obtain ⟨f3, n3, e3, t3⟩ := sd_n (s := (u10_saids n2 (u10_said f2 (u10_valueDown q.2.2.2.2 (u10_valueUp q.2.2.2.1 (u10_beneath q.2.2.1 (u10_down q.2.1 (u10_up q.1 s)))))))) t2 (v := mkA A p) (by omega) (by simp only [List.length_append, List.length_nil, List.length_cons, DGv_len]; omega)
  have k2 : m_X10_mark (u10_saids n2 (u10_said f2 (u10_valueDown q.2.2.2.2 (u10_valueUp q.2.2.2.1 (u10_beneath q.2.2.1 (u10_down q.2.1 (u10_up q.1 s))))))) (nI p) = some (nI (mkA A p)) := mark10 (s := (u10_saids n2 (u10_said f2 (u10_valueDown q.2.2.2.2 (u10_valueUp q.2.2.2.1 (u10_beneath q.2.2.1 (u10_down q.2.1 (u10_up q.1 s)))))))) h10 hok hp
  have k3 : m_X10_mark (u10_saids n3 (u10_said f3 (u10_valueDown q.2.2.2.2 (u10_valueUp q.2.2.2.1 (u10_beneath q.2.2.1 (u10_down q.2.1 (u10_up q.1 s))))))) (nI p) = some (nI (mkA A p)) := mark10 (s := (u10_saids n3 (u10_said f3 (u10_valueDown q.2.2.2.2 (u10_valueUp q.2.2.2.1 (u10_beneath q.2.2.1 (u10_down q.2.1 (u10_up q.1 s)))))))) h10 hok hp
  have kf := frac_say (u10_saids n3 (u10_said f3 (u10_valueDown q.2.2.2.2 (u10_valueUp q.2.2.2.1 (u10_beneath q.2.2.1 (u10_down q.2.1 (u10_up q.1 s))))))) hm v1 v2 v3 v4
  obtain ⟨f4, n4, e4, t4⟩ := sd_c (s := (u10_saids n3 (u10_said f3 (u10_valueDown q.2.2.2.2 (u10_valueUp q.2.2.2.1 (u10_beneath q.2.2.1 (u10_down (J (vD A 0 0 p : Int)) (u10_up (J (dfu (mkA A p) (vU A 0 0 p) (vD A 0 0 p))) s)))))))) t3 (by simp only [List.length_append, List.length_nil, List.length_cons, DGv_len]; omega) (sgn3 (dfu (mkA A p) (vU A 0 0 p) (vD A 0 0 p)))
  have h5 : ∃ f6 n6, (if J (dfu (mkA A p) (vU A 0 0 p) (vD A 0 0 p)) = (0 : Int64) then (m_X10_say (u10_saids n3 (u10_said f3 (u10_valueDown q.2.2.2.2 (u10_valueUp q.2.2.2.1 (u10_beneath q.2.2.1 (u10_down (J (vD A 0 0 p : Int)) (u10_up (J (dfu (mkA A p) (vU A 0 0 p) (vD A 0 0 p))) s))))))) 61).bind fun x28 => some (x28.1, x28.2) else Option.bind (α := Int32) (if J (dfu (mkA A p) (vU A 0 0 p) (vD A 0 0 p)) ≤ (0 : Int64) then some 45 else some 43) fun r22 => (m_X10_say (u10_saids n3 (u10_said f3 (u10_valueDown q.2.2.2.2 (u10_valueUp q.2.2.2.1 (u10_beneath q.2.2.1 (u10_down (J (vD A 0 0 p : Int)) (u10_up (J (dfu (mkA A p) (vU A 0 0 p) (vD A 0 0 p))) s))))))) r22).bind fun x23 => (some (if (0 : Int64) < J (dfu (mkA A p) (vU A 0 0 p) (vD A 0 0 p)) then J (dfu (mkA A p) (vU A 0 0 p) (vD A 0 0 p)) else -J (dfu (mkA A p) (vU A 0 0 p) (vD A 0 0 p)))).bind fun x24 => (m_X10_sayNumber (u10_saids x23.2 (u10_said x23.1 (u10_valueDown q.2.2.2.2 (u10_valueUp q.2.2.2.1 (u10_beneath q.2.2.1 (u10_down (J (vD A 0 0 p : Int)) (u10_up (J (dfu (mkA A p) (vU A 0 0 p) (vD A 0 0 p))) s))))))) x24).bind fun x25 => if J (vD A 0 0 p : Int) ≤ (1 : Int64) then some (x25.1, x25.2) else (m_X10_say (u10_saids x25.2 (u10_said x25.1 (u10_valueDown q.2.2.2.2 (u10_valueUp q.2.2.2.1 (u10_beneath q.2.2.1 (u10_down (J (vD A 0 0 p : Int)) (u10_up (J (dfu (mkA A p) (vU A 0 0 p) (vD A 0 0 p))) s))))))) 47).bind fun x26 => (m_X10_sayNumber (u10_saids x26.2 (u10_said x26.1 (u10_valueDown q.2.2.2.2 (u10_valueUp q.2.2.2.1 (u10_beneath q.2.2.1 (u10_down (J (vD A 0 0 p : Int)) (u10_up (J (dfu (mkA A p) (vU A 0 0 p) (vD A 0 0 p))) s))))))) (J (vD A 0 0 p : Int))).bind fun x27 => some (x27.1, x27.2)) = some (f6, n6) ∧ SDl f6 n6 ([] ++ DGv p ++ [58] ++ DGv (mkA A p) ++ [sgn3 (dfu (mkA A p) (vU A 0 0 p) (vD A 0 0 p))] ++ (if (dfu (mkA A p) (vU A 0 0 p) (vD A 0 0 p)) = 0 then [] else DGv (dfu (mkA A p) (vU A 0 0 p) (vD A 0 0 p)).natAbs) ++ (if vD A 0 0 p = 1 then [] else [47] ++ DGv (vD A 0 0 p))) := by
    have rD : rng (dfu (mkA A p) (vU A 0 0 p) (vD A 0 0 p)) := ⟨by omega, by omega⟩
    by_cases c : (dfu (mkA A p) (vU A 0 0 p) (vD A 0 0 p)) = 0
    · rw [if_pos (show J (dfu (mkA A p) (vU A 0 0 p) (vD A 0 0 p)) = (0 : Int64) by rw [c]; rfl), if_pos c, if_pos (dfu_0 v4 c), List.append_nil, List.append_nil]
      refine ⟨f4, n4, ?_, t4⟩
      rw [show sgn3 (dfu (mkA A p) (vU A 0 0 p) (vD A 0 0 p)) = 61 by unfold sgn3; rw [if_pos c]] at e4
      rw [show (61 : Int32) = nI 61 from rfl, e4, Option.bind_some]
    · rw [if_neg (show ¬ J (dfu (mkA A p) (vU A 0 0 p) (vD A 0 0 p)) = (0 : Int64) from J_ne0 rD c), if_neg c, abs_J rD]
      have es : (if J (dfu (mkA A p) (vU A 0 0 p) (vD A 0 0 p)) ≤ (0 : Int64) then (some 45 : Option Int32) else some 43) = some (nI (sgn3 (dfu (mkA A p) (vU A 0 0 p) (vD A 0 0 p)))) := by
        unfold sgn3
        rw [if_neg c]
        by_cases c2 : (dfu (mkA A p) (vU A 0 0 p) (vD A 0 0 p)) ≤ 0
        · rw [if_pos (show J (dfu (mkA A p) (vU A 0 0 p) (vD A 0 0 p)) ≤ (0 : Int64) from (J_le rD rng0).2 c2), if_pos c2]; rfl
        · rw [if_neg (show ¬ J (dfu (mkA A p) (vU A 0 0 p) (vD A 0 0 p)) ≤ (0 : Int64) from fun k => c2 ((J_le rD rng0).1 k)), if_neg c2]; rfl
      rw [es, Option.bind_some, e4, Option.bind_some]
      dsimp only
      rw [Option.bind_some]
      obtain ⟨f5, n5, e5, t5⟩ := sd_n (s := (u10_saids n4 (u10_said f4 (u10_valueDown q.2.2.2.2 (u10_valueUp q.2.2.2.1 (u10_beneath q.2.2.1 (u10_down (J (vD A 0 0 p : Int)) (u10_up (J (dfu (mkA A p) (vU A 0 0 p) (vD A 0 0 p))) s)))))))) t4 (v := (dfu (mkA A p) (vU A 0 0 p) (vD A 0 0 p)).natAbs) (by omega) (by simp only [List.length_append, List.length_nil, List.length_cons, DGv_len]; omega)
      rw [e5, Option.bind_some]
      by_cases c3 : vD A 0 0 p = 1
      · rw [if_pos (show J (vD A 0 0 p : Int) ≤ (1 : Int64) by rw [c3]; decide), if_pos c3, List.append_nil]
        exact ⟨f5, n5, rfl, t5⟩
      · rw [if_neg (show ¬ J (vD A 0 0 p : Int) ≤ (1 : Int64) from fun k => by have := (J_le (b := 1) (rng_nat (by omega)) ⟨by decide, by decide⟩).1 k; omega), if_neg c3]
        obtain ⟨f6, n6, e6, t6⟩ := sd_c (s := (u10_saids n5 (u10_said f5 (u10_valueDown q.2.2.2.2 (u10_valueUp q.2.2.2.1 (u10_beneath q.2.2.1 (u10_down (J (vD A 0 0 p : Int)) (u10_up (J (dfu (mkA A p) (vU A 0 0 p) (vD A 0 0 p))) s)))))))) t5 (by simp only [List.length_append, List.length_nil, List.length_cons, DGv_len]; omega) 47
        obtain ⟨f7, n7', e7, t7⟩ := sd_n (s := u10_saids n6 (u10_said f6 (u10_valueDown q.2.2.2.2 (u10_valueUp q.2.2.2.1 (u10_beneath q.2.2.1 (u10_down (J (vD A 0 0 p : Int)) (u10_up (J (dfu (mkA A p) (vU A 0 0 p) (vD A 0 0 p))) s))))))) t6 (v := vD A 0 0 p) (by omega) (by simp only [List.length_append, List.length_nil, List.length_cons, DGv_len]; omega)
        rw [← List.append_assoc]
        exact ⟨f7, n7', by rw [show (47 : Int32) = nI 47 from rfl]; dsimp only; rw [e6, Option.bind_some]; dsimp only; rw [e7, Option.bind_some], t7⟩
  obtain ⟨f6, n6, e6, t6⟩ := h5
  have k6 : ([] ++ DGv p ++ [58] ++ DGv (mkA A p) ++ [sgn3 (dfu (mkA A p) (vU A 0 0 p) (vD A 0 0 p))] ++ (if (dfu (mkA A p) (vU A 0 0 p) (vD A 0 0 p)) = 0 then [] else DGv (dfu (mkA A p) (vU A 0 0 p) (vD A 0 0 p)).natAbs) ++ (if vD A 0 0 p = 1 then [] else [47] ++ DGv (vD A 0 0 p)) : List Nat).length ≤ 15 := by
    by_cases c : (dfu (mkA A p) (vU A 0 0 p) (vD A 0 0 p)) = 0
    · by_cases c1 : vD A 0 0 p = 1
      · rw [if_pos c, if_pos c1]; simp only [List.length_append, List.length_nil, List.length_cons, DGv_len]; omega
      · rw [if_pos c, if_neg c1]; simp only [List.length_append, List.length_nil, List.length_cons, DGv_len]; omega
    · by_cases c1 : vD A 0 0 p = 1
      · rw [if_neg c, if_pos c1]; simp only [List.length_append, List.length_nil, List.length_cons, DGv_len]; omega
      · rw [if_neg c, if_neg c1]; simp only [List.length_append, List.length_nil, List.length_cons, DGv_len]; omega
  generalize hL6 : ([] ++ DGv p ++ [58] ++ DGv (mkA A p) ++ [sgn3 (dfu (mkA A p) (vU A 0 0 p) (vD A 0 0 p))] ++ (if (dfu (mkA A p) (vU A 0 0 p) (vD A 0 0 p)) = 0 then [] else DGv (dfu (mkA A p) (vU A 0 0 p) (vD A 0 0 p)).natAbs) ++ (if vD A 0 0 p = 1 then [] else [47] ++ DGv (vD A 0 0 p)) : List Nat) = L6 at t6 k6
  obtain ⟨f7, n7', e7, t7⟩ := sd_c (s := (u10_saids n6 (u10_said f6 (u10_valueDown q.2.2.2.2 (u10_valueUp q.2.2.2.1 (u10_beneath q.2.2.1 (u10_down (J (vD A 0 0 p : Int)) (u10_up (J (dfu (mkA A p) (vU A 0 0 p) (vD A 0 0 p))) s)))))))) t6 (by omega) 32
  obtain ⟨f8, n8, e8, t8⟩ := sd_c (s := u10_saids n7' (u10_said f7 (u10_valueDown q.2.2.2.2 (u10_valueUp q.2.2.2.1 (u10_beneath q.2.2.1 (u10_down (J (vD A 0 0 p : Int)) (u10_up (J (dfu (mkA A p) (vU A 0 0 p) (vD A 0 0 p))) s))))))) t7 (by simp only [List.length_append, List.length_nil, List.length_cons]; omega) (65 + grP A p)
  have kg : m_X10_gradeOf (u10_saids n7' (u10_said f7 (u10_valueDown q.2.2.2.2 (u10_valueUp q.2.2.2.1 (u10_beneath q.2.2.1 (u10_down (J (vD A 0 0 p : Int)) (u10_up (J (dfu (mkA A p) (vU A 0 0 p) (vD A 0 0 p))) s))))))) (nI (vU A 0 0 p)).toInt64 (nI (vD A 0 0 p)).toInt64 = some (nI (grP A p)) := grade10 (s := u10_saids n7' (u10_said f7 (u10_valueDown q.2.2.2.2 (u10_valueUp q.2.2.2.1 (u10_beneath q.2.2.1 (u10_down (J (vD A 0 0 p : Int)) (u10_up (J (dfu (mkA A p) (vU A 0 0 p) (vD A 0 0 p))) s))))))) h10 hok _ _
  have hV : V10 (u10_saids n8 (u10_said f8 (u10_valueDown q.2.2.2.2 (u10_valueUp q.2.2.2.1 (u10_beneath q.2.2.1 (u10_down (J (vD A 0 0 p : Int)) (u10_up (J (dfu (mkA A p) (vU A 0 0 p) (vD A 0 0 p))) s))))))) A (vU A 0 0) (vD A 0 0) := ⟨h10, q2.2.1, q2.2.2⟩
  have kp := pool10 hok hV hp
  have hprd := prd_lt hok (b := sme A (vU A 0 0) (vD A 0 0)) (X := 2 ^ p) (Nat.pow_lt_pow_right (by decide) hp) (hN A)
  have hdl := dif_le (prd A (sme A (vU A 0 0) (vD A 0 0)) (2 ^ p) (hN A)) (2 ^ p)
  obtain ⟨f9, n9, e9, t9⟩ := others10 (s := (u10_saids n8 (u10_said f8 (u10_valueDown q.2.2.2.2 (u10_valueUp q.2.2.2.1 (u10_beneath q.2.2.1 (u10_down (J (vD A 0 0 p : Int)) (u10_up (J (dfu (mkA A p) (vU A 0 0 p) (vD A 0 0 p))) s)))))))) (P := othP A p) (N := hN A) n7 (by unfold othP; omega) h10.1 (by simp only [List.length_append, List.length_nil, List.length_cons]; omega) t8
  refine ⟨J (dfu (mkA A p) (vU A 0 0 p) (vD A 0 0 p)), J (vD A 0 0 p : Int), q.2.2.1, q.2.2.2.1, q.2.2.2.2, f9, n9, ?_, ?_⟩
  · unfold m_X10_sayAll
    rw [qa, Option.bind_some, q1, Option.bind_some, np, e1, Option.bind_some]
    dsimp only
    rw [show (58 : Int32) = nI 58 from rfl, e2, Option.bind_some]
    dsimp only
    rw [k2, Option.bind_some, nm, e3, Option.bind_some, if_pos ib]
    dsimp only
    rw [k3, Option.bind_some, if_pos ib, if_pos ib, ct, u1, u2, kf, Option.bind_some]
    dsimp only
    refine (congrArg (fun o => Option.bind o _) e6).trans ?_
    rw [Option.bind_some]
    dsimp only
    rw [show (32 : Int32) = nI 32 from rfl, e7, Option.bind_some, if_pos ib, if_pos ib]
    dsimp only
    rw [kg, Option.bind_some, show (65 : Int32) + nI (grP A p) = nI (65 + grP A p) from nI_add 65 _, e8, Option.bind_some]
    dsimp only
    rw [kp, Option.bind_some, nI_shl1 p (by omega), nI_dif]
    refine (congrArg (fun o => Option.bind o _) e9).trans ?_
    rw [Option.bind_some]
  · unfold txtP sayL
    rw [← hL6] at t9
    simpa only [List.nil_append, List.append_assoc] using t9
