/-! THE START: the layout, the constants and the statics out of what the Statement gives -/
def strT : List Term := [Term.string RX3 94, Term.string RX3 96, Term.string RX3 98, Term.string RX3 100, Term.string RX3 102, Term.string RX3 104, Term.string RX3 106, Term.string RX3 108, Term.string RX9 407, Term.string RX9 412]
def tmS (i : Nat) : Term := strT.getD i (Term.int 0)
abbrev FLn : List Cond := flatC (Jvm.Cond.and given_1 narrow_1)
set_option maxRecDepth 100000 in
theorem st_ex : ∀ i, i < 10 → Cond.exactly (tmS i) "java/lang/String" ∈ FLn := by decide +kernel
set_option maxRecDepth 100000 in
theorem st_co : ∀ i, i < 10 → Cond.eq (.field (tmS i) "java/lang/String" "coder" "B") (.int 0) ∈ FLn := by decide +kernel
set_option maxRecDepth 100000 in
theorem st_ar : ∀ i, i < 10 → Cond.arrayOf (.field (tmS i) "java/lang/String" "value" "[B") .byte ∈ FLn := by decide +kernel
set_option maxRecDepth 100000 in
theorem st_le : ∀ i, i < 10 → Cond.eq (.length (.field (tmS i) "java/lang/String" "value" "[B")) (.int (Int32.ofNat (lenS.getD i 0))) ∈ FLn := by decide +kernel
set_option maxRecDepth 100000 in
theorem st_elk : ∀ i, i < 10 → (List.range (lenS.getD i 0)).map (fun j => Cond.eq (.elem (.field (tmS i) "java/lang/String" "value" "[B") (.int (Int32.ofNat j))) (.int ((bytS.getD i []).getD j 0))) = (FLn.drop ([219, 228, 237, 248, 260, 272, 285, 300, 315, 333].getD i 0)).take (lenS.getD i 0) := by decide +kernel
theorem st_el : ∀ i, i < 10 → ∀ j, j < lenS.getD i 0 → Cond.eq (.elem (.field (tmS i) "java/lang/String" "value" "[B") (.int (Int32.ofNat j))) (.int ((bytS.getD i []).getD j 0)) ∈ FLn := fun i hi j hj => va_run (st_elk i hi) j hj
set_option maxRecDepth 100000 in
theorem st_nek : ∀ j, j < 10 → (List.range j).map (fun i => Cond.not (Cond.eq (tmS i) (tmS j))) = (FLn.drop ([0, 232, 242, 253, 264, 276, 290, 304, 321, 334].getD j 0)).take j := by decide +kernel
theorem st_ne : ∀ i, i < 10 → ∀ j, j < 10 → i ≠ j → Cond.not (Cond.eq (tmS i) (tmS j)) ∈ FLn ∨ Cond.not (Cond.eq (tmS j) (tmS i)) ∈ FLn := by
  intro i hi j hj h
  rcases Nat.lt_or_ge i j with q | q
  · exact Or.inl (va_run (f := fun i => Cond.not (Cond.eq (tmS i) (tmS j))) (st_nek j hj) i q)
  · exact Or.inr (va_run (f := fun j => Cond.not (Cond.eq (tmS j) (tmS i))) (st_nek i hi) j (by omega))
/-- the reference's own names of the same texts -/
def strM : List (Nat × Nat) := [(8, 328), (0, 372), (1, 374), (2, 375), (3, 376), (4, 377), (5, 379), (6, 381), (7, 382)]
set_option maxRecDepth 100000 in
theorem st_eq : ∀ q ∈ strM, Cond.eq (tmS q.1) (Term.string RX10 q.2) ∈ FLn := by decide +kernel
set_option maxRecDepth 100000 in
theorem st_dgOa : Cond.arrayOf (.static "java/lang/Integer" "DigitOnes" "[B") .byte ∈ FLn ∧ Cond.eq (.length (.static "java/lang/Integer" "DigitOnes" "[B")) (.int (Int32.ofNat 100)) ∈ FLn := by decide +kernel
set_option maxRecDepth 100000 in
theorem st_dgO : (Cond.arrayOf (.static "java/lang/Integer" "DigitOnes" "[B") .byte ∈ FLn ∧ Cond.eq (.length (.static "java/lang/Integer" "DigitOnes" "[B")) (.int (Int32.ofNat 100)) ∈ FLn) ∧ ∀ j, j < 100 → Cond.eq (.elem (.static "java/lang/Integer" "DigitOnes" "[B") (.int (Int32.ofNat j))) (.int (dgO j)) ∈ FLn := ⟨st_dgOa, va_run (L := FLn) (N := 100) (p := 12) (f := fun j => Cond.eq (.elem (.static "java/lang/Integer" "DigitOnes" "[B") (.int (Int32.ofNat j))) (.int (dgO j))) (by decide +kernel)⟩
set_option maxRecDepth 100000 in
theorem st_dgTa : Cond.arrayOf (.static "java/lang/Integer" "DigitTens" "[B") .byte ∈ FLn ∧ Cond.eq (.length (.static "java/lang/Integer" "DigitTens" "[B")) (.int (Int32.ofNat 100)) ∈ FLn := by decide +kernel
set_option maxRecDepth 100000 in
theorem st_dgT : (Cond.arrayOf (.static "java/lang/Integer" "DigitTens" "[B") .byte ∈ FLn ∧ Cond.eq (.length (.static "java/lang/Integer" "DigitTens" "[B")) (.int (Int32.ofNat 100)) ∈ FLn) ∧ ∀ j, j < 100 → Cond.eq (.elem (.static "java/lang/Integer" "DigitTens" "[B") (.int (Int32.ofNat j))) (.int (dgT j)) ∈ FLn := ⟨st_dgTa, va_run (L := FLn) (N := 100) (p := 115) (f := fun j => Cond.eq (.elem (.static "java/lang/Integer" "DigitTens" "[B") (.int (Int32.ofNat j))) (.int (dgT j))) (by decide +kernel)⟩
set_option maxRecDepth 100000 in
theorem st_fl : Cond.eq (.static "java/lang/String" "COMPACT_STRINGS" "Z") (.int 1) ∈ FLn ∧ Cond.isRef (.static "jdk/internal/util/Preconditions" "SIOOBE_FORMATTER" "Ljava/util/function/BiFunction;") ∈ FLn := by decide +kernel
set_option maxRecDepth 100000 in
theorem tb_nest : ∀ w ∈ nestW, w ∈ lw_tbl := by decide +kernel
set_option maxRecDepth 100000 in
theorem tb_lays : Cond.laysStatic "java/lang/String" "COMPACT_STRINGS" "Z" ∈ lw_tbl ∧ Cond.laysStatic "jdk/internal/util/Preconditions" "SIOOBE_FORMATTER" "Ljava/util/function/BiFunction;" ∈ lw_tbl ∧ Cond.laysStatic "java/lang/Integer" "DigitOnes" "[B" ∈ lw_tbl ∧ Cond.laysStatic "java/lang/Integer" "DigitTens" "[B" ∈ lw_tbl := by decide +kernel
set_option maxRecDepth 100000 in
theorem tb_str : ∀ q ∈ strR, Cond.stringRef q.1 q.2.1 q.2.2.1 ∈ lw_tbl := by decide +kernel
set_option maxRecDepth 100000 in
theorem tb_priv : Cond.privateMethod yJ5_ensureCapacityInternal_d00df ∈ lw_tbl ∧ Cond.privateMethod yJ5_newCapacity_0f7a4 ∈ lw_tbl ∧ Cond.privateMethod yJ5_putStringAt_47b60 ∈ lw_tbl ∧ Cond.privateMethod yJ5_inflateIfNeededFor_a7421 ∈ lw_tbl := by decide +kernel
theorem strR_tm : ∀ q ∈ strR, tmS q.2.2.2 = Term.string q.1 q.2.1 ∨ (q.1 = RX10 ∧ (q.2.2.2, q.2.1) ∈ strM) := by decide +kernel
theorem strR_lt : ∀ q ∈ strR, q.2.2.2 < 10 := by decide +kernel
theorem arrK {s : State} {args : Array Value} {ty : FieldType} (hty : ∀ C, ty ≠ .object C) (h : (Cond.arrayClass ty).before args s = true) : ∃ cA : ClassId, ArrOfT s cA ty ∧ va_RA s cA ty := by
  obtain ⟨cA, kA, comp, h1, h2, h3⟩ := Cond.arrayClass_spec h
  refine ⟨cA, fun n z => ⟨fun k h => (by cases h), kA, h2, comp, h3⟩, ?_⟩
  cases ty with
  | object C => exact absurd rfl (hty C)
  | _ => exact h1
theorem digs {s : State} {args : Array Value} {A : Nat → Prop} {n : String} {f : Nat → Int32} (hs : ∀ c ∈ FLn, c.before args s = true) (hA : ∀ a : Nat, a < s.heap.size → ¬ A a) (hl : (Cond.laysStatic "java/lang/Integer" n "[B").before args s = true) (hi : (Cond.initialized "java/lang/Integer").before args s = true)
    (h : (Cond.arrayOf (.static "java/lang/Integer" n "[B") .byte ∈ FLn ∧ Cond.eq (.length (.static "java/lang/Integer" n "[B")) (.int (Int32.ofNat 100)) ∈ FLn) ∧ ∀ j, j < 100 → Cond.eq (.elem (.static "java/lang/Integer" n "[B") (.int (Int32.ofNat j))) (.int (f j)) ∈ FLn) : DG n f A s s.heap := by
  obtain ⟨t, ht, hT⟩ := va_Tof (f := fun j => .int (f j)) (A := A) (N := 100) (by decide) (hs _ h.1.1) (va_eqt (hs _ h.1.2)) (fun j hj => va_eqt (hs _ (h.2 j hj))) hA
  exact ⟨t, va_Zof hl hi ht hA, hT⟩
theorem start_g {p : Program} {s : State} {m : MethodId} {meth : Method} {c : Code} {b L : Nat} {xs : Nat → Int32} (C0 : lw_At p s m meth c b L xs) : ∃ g : GG, NK g s ∧ SK g (fun q : Nat => s.heap.size ≤ q) s s.heap := by
  obtain ⟨hx, hb, hr, hml, hown, hts0, hX, hbl, hlocks, hgv⟩ := id C0
  have hts : ∀ w ∈ G, w.before #[Value.ref b] s = true := fun w hw => hts0 w (G_good w hw).1
  have hs : ∀ c ∈ FLn, c.before #[Value.ref b] s = true := flat_of_before _ hgv
  have hA : ∀ a : Nat, a < s.heap.size → ¬ (fun q : Nat => s.heap.size ≤ q) a := fun a h => Nat.not_le.mpr h
  obtain ⟨c0, i0, k0⟩ := u_known (C := RJ4) (T := TJ4) (N := 4) (n := 4) hts layJ4 (hts _ kw205)
  obtain ⟨c1, i1, k1⟩ := u_known (C := RX0) (T := TX0) (N := 5) (n := 5) hts layX0 (hts _ kw184)
  obtain ⟨c2, i2, k2⟩ := u_known (C := RX1) (T := TX1) (N := 2) (n := 2) hts layX1 (hts _ kw142)
  obtain ⟨c3, i3, k3⟩ := u_known (C := RX2) (T := TX2) (N := 1) (n := 1) hts layX2 (hts _ kw37)
  obtain ⟨c4, i4, k4⟩ := u_known (C := RX3) (T := TX3) (N := 5) (n := 5) hts layX3 (hts _ kw77)
  obtain ⟨c5, i5, k5⟩ := u_known (C := RX4) (T := TX4) (N := 7) (n := 7) hts layX4 (hts _ kw130)
  obtain ⟨c6, i6, k6⟩ := u_known (C := RX5) (T := TX5) (N := 5) (n := 5) hts layX5 (hts _ kw112)
  obtain ⟨c7, i7, k7⟩ := u_known (C := RX6) (T := TX6) (N := 13) (n := 13) hts layX6 (hts _ kw32)
  obtain ⟨c8, i8, k8⟩ := u_known (C := RX7) (T := TX7) (N := 3) (n := 3) hts layX7 (hts _ kw97)
  obtain ⟨c9, i9, k9⟩ := u_known (C := RX8) (T := TX8) (N := 7) (n := 7) hts layX8 (hts _ kw135)
  obtain ⟨c10, i10, k10⟩ := u_known (C := RX9) (T := TX9) (N := 14) (n := 14) hts layX9 (hts _ kw24)
  obtain ⟨c11, i11, k11⟩ := u_known (C := RX10) (T := TX10) (N := 36) (n := 36) hts layX10 (hts _ kw1272)
  obtain ⟨dC, dI, hKc⟩ : ∃ (dC : Nat → ClassId) (dI : Nat → Nat → Nat), ∀ (k : Nat) (q : vw_C), vwCl[k]? = some q → u_Kn s q.1 q.2.1 q.2.2 (dC k) (dI k) := by
    refine ⟨fun k => [c0, c1, c2, c3, c4, c5, c6, c7, c8, c9, c10, c11].getD k c0, fun k => [i0, i1, i2, i3, i4, i5, i6, i7, i8, i9, i10, i11].getD k i0, ?_⟩
    intro k q hq
    match k, hq with
    | 0, hq => cases hq; exact k0
    | 1, hq => cases hq; exact k1
    | 2, hq => cases hq; exact k2
    | 3, hq => cases hq; exact k3
    | 4, hq => cases hq; exact k4
    | 5, hq => cases hq; exact k5
    | 6, hq => cases hq; exact k6
    | 7, hq => cases hq; exact k7
    | 8, hq => cases hq; exact k8
    | 9, hq => cases hq; exact k9
    | 10, hq => cases hq; exact k10
    | 11, hq => cases hq; exact k11
    | k + 12, hq => simp [vwCl] at hq
  obtain ⟨cI, hI1, hI2⟩ := arrK (ty := .int) (fun C h => by cases h) (hts _ kw48)
  obtain ⟨cL, hL1, hL2⟩ := arrK (ty := .long) (fun C h => by cases h) (hts _ kw110)
  obtain ⟨cB, hB1, hB2⟩ := arrK (ty := .byte) (fun C h => by cases h) (hts _ kw230)
  have hne : ∀ i j : Nat, i < 10 → j < 10 → i ≠ j → (Cond.not (Cond.eq (tmS i) (tmS j))).before #[Value.ref b] s = true ∨ (Cond.not (Cond.eq (tmS j) (tmS i))).before #[Value.ref b] s = true := by
    intro i j hi hj hij
    rcases st_ne i hi j hj hij with h | h
    · exact Or.inl (hs _ h)
    · exact Or.inr (hs _ h)
  obtain ⟨aK, aV, hVS, hev⟩ := vk_Sof (N := 10) (tm := tmS) (len := lenS) (byt := bytS) (A := fun q : Nat => s.heap.size ≤ q) (by decide +kernel) (fun i hi => hs _ (st_ex i hi)) (fun i hi => hs _ (st_co i hi)) (fun i hi => hs _ (st_ar i hi)) (fun i hi => hs _ (st_le i hi)) (fun i hi j hj => hs _ (st_el i hi j hj)) hne hA
  refine ⟨((dC, dI), cI, cL, cB, aK, aV), ⟨⟨hKc, fun k q hq => ?_⟩, fun w hw => ?_, fun q hq => ?_, fun w hw => ?_⟩, ⟨hVS, va_Zof (hts0 _ tb_lays.1) (hts _ kw14) (va_eqt (hs _ st_fl.1)) hA, va_Zqof (hts0 _ tb_lays.2.1) (hts _ kw18) (hs _ st_fl.2) hA, digs hs hA (hts0 _ tb_lays.2.2.1) (hts _ kw19) st_dgO, digs hs hA (hts0 _ tb_lays.2.2.2) (hts _ kw19) st_dgT⟩⟩
  · match k, hq with
    | 0, hq => cases hq; exact ⟨hI1, hI2⟩
    | 1, hq => cases hq; exact ⟨hL1, hL2⟩
    | 2, hq => cases hq; exact ⟨hB1, hB2⟩
    | k + 3, hq => simp [tysOf] at hq
  · obtain ⟨a, i, x, o, rfl⟩ := nest_warm w hw
    exact va_Nw.of rfl (hts0 _ (tb_nest _ hw))
  · refine vk_R.of (hts0 _ (tb_str q hq)) ?_
    have h1 := hev _ (strR_lt q hq)
    rcases strR_tm q hq with h | ⟨h, h2⟩
    · rw [← h]; exact h1
    · rw [h]
      exact va_eqR (hs _ (st_eq _ h2)) h1
  · refine va_Nw.of (sbS_good w hw).2 (A := #[Value.ref b]) ?_
    unfold sbS at hw
    simp only [List.mem_cons, List.not_mem_nil, or_false] at hw
    rcases hw with rfl | rfl | rfl | rfl
    · exact sel_priv (z := yJ5_isLatin1_aae02) ⟨by decide, by decide⟩ rfl (hts _ kw1009) (hts0 _ tb_priv.1) (hts _ kw979)
    · exact sel_priv (z := yJ5_isLatin1_aae02) ⟨by decide, by decide⟩ rfl (hts _ kw1009) (hts0 _ tb_priv.2.1) (hts _ kw982)
    · exact sel_priv (z := yJ5_isLatin1_aae02) ⟨by decide, by decide⟩ rfl (hts _ kw1009) (hts0 _ tb_priv.2.2.1) (hts _ kw1111)
    · exact sel_priv (z := yJ5_isLatin1_aae02) ⟨by decide, by decide⟩ rfl (hts _ kw1009) (hts0 _ tb_priv.2.2.2) (hts _ kw1114)
/-- the law, from its entry, out of a relation that every call keeps -/
theorem whole_of (Rel : T9 → T10 → Prop) (ho : OPS Rel) (h0 : ∀ q : Nat, Rel (s9_init q) s10_init) {p : Program} {e : Env} {s : State} {m : MethodId} {below : List Frame} {meth : Method} {c : Code} (l : Launch) {b L : Nat} {xs : Nat → Int32} (hL : L ≤ 2560) (C0 : lw_At p s m meth c b L xs) : W p l e room_1 s m #[Value.ref b] below meth c s.heap [] 0 0 (lw_Z below #[Value.ref b] s) (entryFrame m ([Value.ref b] : List Value).toArray 4) := by
  obtain ⟨g, hK, hE⟩ := start_g C0
  obtain ⟨hx, hb, hr, hml, hown, hts0, hX, hbl, hlocks, hgv⟩ := id C0
  have hts : ∀ w ∈ G, w.before #[Value.ref b] s = true := fun w hw => hts0 w (G_good w hw).1
  exact law_start l g Rel ho hL hx hb hr hlocks hml hown hts hX hbl hK hE h0
