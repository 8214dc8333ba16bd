/-! the builder's room: Arrays.copyOf, ensureCapacityInternal -/
/-- the room of the builder behind a wish for p1 places: it and what it holds -/
def m_J5_ensure (s0 : TSB) (p1 : Int32) : Option (Nat × (Nat → Int32)) :=
  if p1 - ((nI (pSB_m s0)) >>> ((0 : Int32) &&& 31)) ≤ 0 then some (pSB_m s0, pSB_f s0) else
  (m_J5_newCapacity_0f7a4 s0 p1).bind fun k => if (k <<< ((0 : Int32) &&& 31)) = nI k.toNatClampNeg ∧ pSB_m s0 < k.toNatClampNeg ∧ k.toNatClampNeg ≤ 300 ∧ fitAll (pSB_m s0) (pSB_f s0) = true then some (k.toNatClampNeg, va_cpy (pSB_f s0) (fun _ => (0 : Int32)) 0 0 (pSB_m s0)) else none
theorem dJ5_ensureCapacityInternal_d00df_0 : decode cJ5_ensureCapacityInternal_d00df 0 = .ok (.aload_n 0, 1) := by decide +kernel
theorem dJ5_ensureCapacityInternal_d00df_1 : decode cJ5_ensureCapacityInternal_d00df 1 = .ok (.getfield 15, 3) := by decide +kernel
theorem dJ5_ensureCapacityInternal_d00df_10 : decode cJ5_ensureCapacityInternal_d00df 10 = .ok (.istore_n 2, 1) := by decide +kernel
theorem dJ5_ensureCapacityInternal_d00df_11 : decode cJ5_ensureCapacityInternal_d00df 11 = .ok (.iload_n 1, 1) := by decide +kernel
theorem dJ5_ensureCapacityInternal_d00df_12 : decode cJ5_ensureCapacityInternal_d00df 12 = .ok (.iload_n 2, 1) := by decide +kernel
theorem dJ5_ensureCapacityInternal_d00df_13 : decode cJ5_ensureCapacityInternal_d00df 13 = .ok (.isub, 1) := by decide +kernel
theorem dJ5_ensureCapacityInternal_d00df_14 : decode cJ5_ensureCapacityInternal_d00df 14 = .ok (.ifCond .le 24, 3) := by decide +kernel
theorem dJ5_ensureCapacityInternal_d00df_17 : decode cJ5_ensureCapacityInternal_d00df 17 = .ok (.aload_n 0, 1) := by decide +kernel
theorem dJ5_ensureCapacityInternal_d00df_18 : decode cJ5_ensureCapacityInternal_d00df 18 = .ok (.aload_n 0, 1) := by decide +kernel
theorem dJ5_ensureCapacityInternal_d00df_19 : decode cJ5_ensureCapacityInternal_d00df 19 = .ok (.getfield 15, 3) := by decide +kernel
theorem dJ5_ensureCapacityInternal_d00df_22 : decode cJ5_ensureCapacityInternal_d00df 22 = .ok (.aload_n 0, 1) := by decide +kernel
theorem dJ5_ensureCapacityInternal_d00df_23 : decode cJ5_ensureCapacityInternal_d00df 23 = .ok (.iload_n 1, 1) := by decide +kernel
theorem dJ5_ensureCapacityInternal_d00df_24 : decode cJ5_ensureCapacityInternal_d00df 24 = .ok (.invokevirtual 104, 3) := by decide +kernel
theorem dJ5_ensureCapacityInternal_d00df_27 : decode cJ5_ensureCapacityInternal_d00df 27 = .ok (.aload_n 0, 1) := by decide +kernel
theorem dJ5_ensureCapacityInternal_d00df_28 : decode cJ5_ensureCapacityInternal_d00df 28 = .ok (.getfield 22, 3) := by decide +kernel
theorem dJ5_ensureCapacityInternal_d00df_31 : decode cJ5_ensureCapacityInternal_d00df 31 = .ok (.ishl, 1) := by decide +kernel
theorem dJ5_ensureCapacityInternal_d00df_32 : decode cJ5_ensureCapacityInternal_d00df 32 = .ok (.invokestatic 108, 3) := by decide +kernel
theorem dJ5_ensureCapacityInternal_d00df_35 : decode cJ5_ensureCapacityInternal_d00df 35 = .ok (.putfield 15, 3) := by decide +kernel
theorem dJ5_ensureCapacityInternal_d00df_38 : decode cJ5_ensureCapacityInternal_d00df 38 = .ok (.return_, 1) := by decide +kernel
theorem dJ5_ensureCapacityInternal_d00df_4 : decode cJ5_ensureCapacityInternal_d00df 4 = .ok (.arraylength, 1) := by decide +kernel
theorem dJ5_ensureCapacityInternal_d00df_5 : decode cJ5_ensureCapacityInternal_d00df 5 = .ok (.aload_n 0, 1) := by decide +kernel
theorem dJ5_ensureCapacityInternal_d00df_6 : decode cJ5_ensureCapacityInternal_d00df 6 = .ok (.getfield 22, 3) := by decide +kernel
theorem dJ5_ensureCapacityInternal_d00df_9 : decode cJ5_ensureCapacityInternal_d00df 9 = .ok (.ishr, 1) := by decide +kernel
theorem dJ7_copyOf_9075b_0 : decode cJ7_copyOf_9075b 0 = .ok (.iload_n 1, 1) := by decide +kernel
theorem dJ7_copyOf_9075b_1 : decode cJ7_copyOf_9075b 1 = .ok (.aload_n 0, 1) := by decide +kernel
theorem dJ7_copyOf_9075b_14 : decode cJ7_copyOf_9075b 14 = .ok (.iload_n 1, 1) := by decide +kernel
theorem dJ7_copyOf_9075b_15 : decode cJ7_copyOf_9075b 15 = .ok (.newarray .byte, 2) := by decide +kernel
theorem dJ7_copyOf_9075b_17 : decode cJ7_copyOf_9075b 17 = .ok (.astore_n 2, 1) := by decide +kernel
theorem dJ7_copyOf_9075b_18 : decode cJ7_copyOf_9075b 18 = .ok (.aload_n 0, 1) := by decide +kernel
theorem dJ7_copyOf_9075b_19 : decode cJ7_copyOf_9075b 19 = .ok (.iconst 0, 1) := by decide +kernel
theorem dJ7_copyOf_9075b_2 : decode cJ7_copyOf_9075b 2 = .ok (.arraylength, 1) := by decide +kernel
theorem dJ7_copyOf_9075b_20 : decode cJ7_copyOf_9075b 20 = .ok (.aload_n 2, 1) := by decide +kernel
theorem dJ7_copyOf_9075b_21 : decode cJ7_copyOf_9075b 21 = .ok (.iconst 0, 1) := by decide +kernel
theorem dJ7_copyOf_9075b_22 : decode cJ7_copyOf_9075b 22 = .ok (.aload_n 0, 1) := by decide +kernel
theorem dJ7_copyOf_9075b_23 : decode cJ7_copyOf_9075b 23 = .ok (.arraylength, 1) := by decide +kernel
theorem dJ7_copyOf_9075b_24 : decode cJ7_copyOf_9075b 24 = .ok (.iload_n 1, 1) := by decide +kernel
theorem dJ7_copyOf_9075b_25 : decode cJ7_copyOf_9075b 25 = .ok (.invokestatic 304, 3) := by decide +kernel
theorem dJ7_copyOf_9075b_28 : decode cJ7_copyOf_9075b 28 = .ok (.invokestatic 150, 3) := by decide +kernel
theorem dJ7_copyOf_9075b_3 : decode cJ7_copyOf_9075b 3 = .ok (.if_icmp .ne 11, 3) := by decide +kernel
theorem dJ7_copyOf_9075b_31 : decode cJ7_copyOf_9075b 31 = .ok (.aload_n 2, 1) := by decide +kernel
theorem dJ7_copyOf_9075b_32 : decode cJ7_copyOf_9075b 32 = .ok (.areturn, 1) := by decide +kernel
theorem svP_J5_newCapacity_0f7a4 : Cond.sameMethod (yJ5_newCapacity_0f7a4).cls (yJ5_newCapacity_0f7a4).cls (yJ5_newCapacity_0f7a4).name (yJ5_newCapacity_0f7a4).desc ∈ G ∧ Cond.instanceMethod yJ5_newCapacity_0f7a4 ∈ G ∧ Cond.selects RJ4 yJ5_newCapacity_0f7a4 yJ5_newCapacity_0f7a4 ∈ sbS ∧ Cond.initialized (yJ5_newCapacity_0f7a4).cls ∈ G ∧ Cond.code yJ5_newCapacity_0f7a4 cJ5_newCapacity_0f7a4 6 (some .int) ∈ G ∧ (yJ5_newCapacity_0f7a4).cls ≠ "java/lang/invoke/MethodHandle" ∧ (yJ5_newCapacity_0f7a4).cls ≠ "java/lang/invoke/VarHandle" ∧ (parseMethodDescriptor (yJ5_newCapacity_0f7a4).desc).map (fun d => d.parameters.length) = some 1 := ⟨kw1775, kw982, by unfold sbS; exact List.Mem.tail _ (List.Mem.head _), kw12, kw983, by decide, by decide, by decide +kernel⟩
def Qcp (g : GG) (a m : Nat) (f : Nat → Int32) (k : Nat) : (Nat → Prop) → Array Value → State → Outcome → State → Prop := fun A => va_Qr (fun _ : Unit => True) (fun _ q t => va_P g.1 vwCl [(a, .inl (g.2.2.2.1, m, .inl f)), (q, .inl (g.2.2.2.1, k, .inl (va_cpy f (fun _ => (0 : Int32)) 0 0 m)))] t.heap ∧ va_D A [(a, .inl (g.2.2.2.1, m, .inl f)), (q, .inl (g.2.2.2.1, k, .inl (va_cpy f (fun _ => (0 : Int32)) 0 0 m)))]) A
set_option maxHeartbeats 4000000 in
set_option maxRecDepth 100000 in
theorem c_J7_copyOf (l : Launch) (g : GG) (a m : Nat) (f : Nat → Int32) (k : Nat) (hmk : m < k) (hk : k ≤ 300) (hfit : fitAll m f = true) : Ct l g yJ7_copyOf_9075b cJ7_copyOf_9075b 3 (some (.array .byte)) ({ frames := 1, cells := 1, slots := 300, locals := 60 } : Room) [.ref a, .int (nI k)] [(a, .inl (g.2.2.2.1, m, .inl f))] (Qcp g a m f k) 1 300 := by
  refine Ct.of (own := RJ7) (by decide +kernel) rfl (Nat.le_of_ble_eq_true rfl) ?_
  intro p e s mm below meth c hx hb hr hml hown hts hlocks hin hK A H locs hA hP hD hS hE ls hl
  have hl : lv_has ls 3 [(0, .ref a), (1, .int (nI k))] := hl
  have hne : ¬ nI k = nI m := fun h => by rw [nI_eq (by omega) (by omega)] at h; omega
  refine lv_iload_n hx hb dJ7_copyOf_9075b_0 rfl (lv_at hl 1 rfl) ?_
  refine lv_aload_n hx hb dJ7_copyOf_9075b_1 rfl (lv_at hl 0 rfl) ?_
  refine va_alen (v := nI m) hx hb hK.1 hP 0 2 rfl rfl rfl dJ7_copyOf_9075b_2 ?_
  refine lv_icmp_ne (tgt := 14) hx hb dJ7_copyOf_9075b_3 (by decide) (fun _ => ?_) (fun h => absurd h hne)
  refine lv_iload_n hx hb dJ7_copyOf_9075b_14 rfl (lv_at hl 1 rfl) ?_
  refine nwB (N := k) hx hb (hts _ kw230) hK hP hD hS hA (nI_pos (by omega)) (nI_clamp (by omega)) (by omega) (Nat.le_of_ble_eq_true rfl) (by show 0 + k ≤ 300; omega) dJ7_copyOf_9075b_15 (fun q H hP hD hS => ?_)
  have hP : va_P g.1 vwCl [(a, .inl (g.2.2.2.1, m, .inl f)), (q, .inl (g.2.2.2.1, k, .inl (fun _ => (0 : Int32))))] H := hP
  have hD : va_D A [(a, .inl (g.2.2.2.1, m, .inl f)), (q, .inl (g.2.2.2.1, k, .inl (fun _ => (0 : Int32))))] := hD
  refine W.widen (k := 1) (n := 300) (by omega) (by omega) ?_
  refine lv_astore_n (lv' := [(2, .ref q), (0, .ref a), (1, .int (nI k))]) hx hb dJ7_copyOf_9075b_17 rfl hl (by decide) rfl (fun ls hl => ?_)
  refine lv_aload_n hx hb dJ7_copyOf_9075b_18 rfl (lv_at hl 1 rfl) ?_
  refine lv_iconst (v := 0) hx hb dJ7_copyOf_9075b_19 (by decide) ?_
  refine lv_aload_n hx hb dJ7_copyOf_9075b_20 rfl (lv_at hl 0 rfl) ?_
  refine lv_iconst (v := 0) hx hb dJ7_copyOf_9075b_21 (by decide) ?_
  refine lv_aload_n hx hb dJ7_copyOf_9075b_22 rfl (lv_at hl 1 rfl) ?_
  refine va_alen (v := nI m) hx hb hK.1 hP 0 2 rfl rfl rfl dJ7_copyOf_9075b_23 ?_
  refine lv_iload_n hx hb dJ7_copyOf_9075b_24 rfl (lv_at hl 2 rfl) ?_
  refine va_mmin hx hb (hml.trans hl.1.symm) hown (hts _ kw1002) (hts _ kw567) (hts _ kw4) (hts _ kw568) (Nat.le_of_ble_eq_true rfl) (Nat.le_of_ble_eq_true rfl) (Nat.le_of_ble_eq_true rfl) (Nat.le_of_ble_eq_true rfl) dJ7_copyOf_9075b_25 ?_
  refine nmI (z := nI m) (if_neg (by rw [nI_ltI (by omega) (by omega)]; omega)) ?_
  have em : (nI m).toNatClampNeg = m := nI_clamp (by omega)
  have e0 : (0 : Int32).toNatClampNeg = 0 := by decide
  refine va_copyi hx hb (hml.trans hl.1.symm) hown (hts _ kw1003) (hts _ kw1005) (hts _ kw1004) (hts _ kw22) hK.1 hP hD hS 0 1 2 2 rfl rfl rfl rfl rfl (by decide) (by decide) (nI_pos (by omega)) (by rw [em, e0]; omega) (by rw [em, e0]; omega) (fun i hi => by rw [e0, Nat.zero_add]; exact fitAll_at hfit (by rw [em] at hi; exact hi)) (Nat.le_of_ble_eq_true rfl) (Nat.le_of_ble_eq_true rfl) dJ7_copyOf_9075b_28 (fun H locs hP hD hS => ?_)
  rw [em, e0] at hP hD
  refine lv_aload_n hx hb dJ7_copyOf_9075b_31 rfl (lv_at hl 0 rfl) ?_
  exact W.aret hx hb hr (Or.inr ⟨_, rfl⟩) (Or.inr ⟨q, rfl⟩) (fun t ht hW => ⟨⟨(), q, rfl, trivial, by rw [ht]; exact hP, hD⟩, hS.F ht⟩) hS.2.2 dJ7_copyOf_9075b_32 hlocks
theorem svS_J7_copyOf : SS RJ7 yJ7_copyOf_9075b cJ7_copyOf_9075b 3 (some (.array .byte)) 2 := ⟨kw994, kw21, kw995, rfl, by decide, by decide, by decide +kernel⟩
set_option maxHeartbeats 4000000 in
set_option maxRecDepth 100000 in
theorem c_J5_ensure (l : Launch) (g : GG) (a0 : Nat → Nat) (v0_a : Nat) (v0_m : Nat) (v0_f : (Nat → Int32)) (v0_l : Int32) (v0_n : Int32) (p1 : Int32) (hne : m_J5_ensure (v0_a, v0_m, v0_f, v0_l, v0_n) p1 ≠ none) : Ct l g yJ5_ensureCapacityInternal_d00df cJ5_ensureCapacityInternal_d00df 3 none ({ frames := 4, cells := 1, slots := 300, locals := 140 } : Room) [.ref (a0 0), .int p1] (wSBX a0 g v0_a v0_m v0_f v0_l v0_n) (Qvg g (m_J5_ensure (v0_a, v0_m, v0_f, v0_l, v0_n) p1) (fun u ga => wSBX a0 g ga u.1 u.2 v0_l v0_n)) 1 300 := by
  obtain ⟨out, hf⟩ := ne_ex hne
  have hf0 := hf
  refine Ct.of (own := RJ5) (by decide +kernel) rfl (Nat.le_of_ble_eq_true rfl) ?_
  intro p e s m below meth c hx hb hr hml hown hts hlocks hin hK A H locs hA hP hD hS hE ls hl
  have hl : lv_has ls 3 [(0, .ref (a0 0)), (1, .int p1)] := hl
  unfold m_J5_ensure at hf
  refine lv_aload_n hx hb dJ5_ensureCapacityInternal_d00df_0 rfl (lv_at hl 0 rfl) ?_
  refine va_get (D := g.1) (ci := 0) (v := .ref v0_a) (C := RJ4) (T := TJ4) (N := 4) hx hb hts layJ4 hown hK.1 hP 0 rfl rfl 0 (by decide) (hts _ kw221) (fun _ h9 => h9) rfl dJ5_ensureCapacityInternal_d00df_1 ?_
  refine va_alen (v := nI v0_m) hx hb hK.1 hP 1 2 rfl rfl rfl dJ5_ensureCapacityInternal_d00df_4 ?_
  refine lv_aload_n hx hb dJ5_ensureCapacityInternal_d00df_5 rfl (lv_at hl 0 rfl) ?_
  refine va_get (D := g.1) (ci := 0) (v := .int 0) (C := RJ4) (T := TJ4) (N := 4) hx hb hts layJ4 hown hK.1 hP 0 rfl rfl 1 (by decide) (hts _ kw222) (fun _ h9 => h9) rfl dJ5_ensureCapacityInternal_d00df_6 ?_
  refine lv_ishr hx hb dJ5_ensureCapacityInternal_d00df_9 ?_
  refine lv_istore_n (lv' := [(2, .int ((nI v0_m) >>> ((0 : Int32) &&& 31))), (0, .ref (a0 0)), (1, .int p1)]) hx hb dJ5_ensureCapacityInternal_d00df_10 rfl hl (by decide) rfl (fun ls hl => ?_)
  refine lv_iload_n hx hb dJ5_ensureCapacityInternal_d00df_11 rfl (lv_at hl 2 rfl) ?_
  refine lv_iload_n hx hb dJ5_ensureCapacityInternal_d00df_12 rfl (lv_at hl 0 rfl) ?_
  refine lv_isub hx hb dJ5_ensureCapacityInternal_d00df_13 ?_
  refine lv_if_le (tgt := 38) hx hb dJ5_ensureCapacityInternal_d00df_14 (by decide) (fun cb => ?_) (fun cb => ?_)
  · have hf := it_t cb hf
    refine W.widen (k := 1) (n := 300) (by omega) (by omega) ?_
    exact retVg (u := (v0_m, v0_f)) (ga := v0_a) (W1 := fun u ga => wSBX a0 g ga u.1 u.2 v0_l v0_n) hx hb hr hlocks hS hP hD (hf0.trans hf.symm) dJ5_ensureCapacityInternal_d00df_38
  have hf := it_f cb hf
  refine lv_aload_n hx hb dJ5_ensureCapacityInternal_d00df_17 rfl (lv_at hl 1 rfl) ?_
  refine lv_aload_n hx hb dJ5_ensureCapacityInternal_d00df_18 rfl (lv_at hl 1 rfl) ?_
  refine va_get (D := g.1) (ci := 0) (v := .ref v0_a) (C := RJ4) (T := TJ4) (N := 4) hx hb hts layJ4 hown hK.1 hP 0 rfl rfl 0 (by decide) (hts _ kw221) (fun _ h9 => h9) rfl dJ5_ensureCapacityInternal_d00df_19 ?_
  refine lv_aload_n hx hb dJ5_ensureCapacityInternal_d00df_22 rfl (lv_at hl 1 rfl) ?_
  refine lv_iload_n hx hb dJ5_ensureCapacityInternal_d00df_23 rfl (lv_at hl 2 rfl) ?_
  refine cIp hP hD hS hA hE (fun hPc hDc hSc => rVp (As := [.int p1]) (rest := [.ref v0_a, .ref (a0 0)]) hx hb hml hown hts hK (c_J5_newCapacity_0f7a4 l g a0 v0_a v0_m v0_f v0_l v0_n p1 (bnd_ne hf)) svP_J5_newCapacity_0f7a4 kw981 rfl rfl hPc hDc hSc rfl rfl hl.1 (Nat.le_of_ble_eq_true rfl) dJ5_ensureCapacityInternal_d00df_24 ⟨Nat.le_of_ble_eq_true rfl, Nat.le_of_ble_eq_true rfl, rfl, rfl, Nat.le_of_ble_eq_true rfl, Nat.le_of_ble_eq_true rfl⟩) [(0, 2)] rfl rfl rfl (fun k H locs ek nk hP hS => ?_)
  have hf := bnd_of hf ek
  have hi := it_n hf
  have hf := it_t hi hf
  obtain ⟨hk0, hk1, hk2, hk3⟩ := hi
  refine lv_aload_n hx hb dJ5_ensureCapacityInternal_d00df_27 rfl (lv_at hl 1 rfl) ?_
  refine va_get (D := g.1) (ci := 0) (v := .int 0) (C := RJ4) (T := TJ4) (N := 4) hx hb hts layJ4 hown hK.1 hP 0 rfl rfl 1 (by decide) (hts _ kw222) (fun _ h9 => h9) rfl dJ5_ensureCapacityInternal_d00df_28 ?_
  refine lv_ishl hx hb dJ5_ensureCapacityInternal_d00df_31 ?_
  refine nmI (z := nI k.toNatClampNeg) hk0 ?_
  have hC := mid_C (wSBX a0 g v0_a v0_m v0_f v0_l v0_n) 1 1 (Nat.le_refl 2)
  have hFc := va_free (wc := [(v0_a, .inl (g.2.2.2.1, v0_m, .inl v0_f))]) hD hS hA (List.range' 1 1) hC
  have hPD := subPD (Wc := [(v0_a, .inl (g.2.2.2.1, v0_m, .inl v0_f))]) hP hD (List.range' 1 1) hC (va_nd_range _ _)
  have hrun := rS (As := [.ref v0_a, .int (nI k.toNatClampNeg)]) (rest := [.ref (a0 0)]) (cells := 0) (slots := 0) hx hb hml hown hts hK (c_J7_copyOf l g v0_a v0_m v0_f k.toNatClampNeg hk1 hk2 hk3) svS_J7_copyOf kw993 hPD.1 hPD.2 ((hE.kept hS.2.1).narrow hFc) rfl rfl hl.1 (Nat.le_of_ble_eq_true rfl) dJ5_ensureCapacityInternal_d00df_32 (R := { frames := 4, cells := 1, slots := 300, locals := 140 }) (locs := locs) (p := p) (e := e) (below := below) (meth := meth) ⟨Nat.le_of_ble_eq_true rfl, Nat.le_of_ble_eq_true rfl, rfl, rfl, Nat.le_of_ble_eq_true rfl, Nat.le_of_ble_eq_true rfl⟩
  refine va_callr hrun hS (fun q _ h => hFc q h) hFc (fun u ra t H1 locs1 ht hvm hw hB hz1 hk1' hS1 => ?_)
  obtain ⟨hP1, hD1⟩ := hB
  rw [ht] at hP1
  obtain ⟨hP, hD⟩ := joinM hP hD 1 1 rfl (Nat.le_refl 2) hk1' hFc hP1 hD1
  have hP : va_P g.1 vwCl [(a0 0, .inr (0, [.ref v0_a, .int 0, .int v0_l, .int v0_n])), (v0_a, .inl (g.2.2.2.1, v0_m, .inl v0_f)), (ra, .inl (g.2.2.2.1, k.toNatClampNeg, .inl (va_cpy v0_f (fun _ => (0 : Int32)) 0 0 v0_m)))] H1 := hP
  have hD : va_D A [(a0 0, .inr (0, [.ref v0_a, .int 0, .int v0_l, .int v0_n])), (v0_a, .inl (g.2.2.2.1, v0_m, .inl v0_f)), (ra, .inl (g.2.2.2.1, k.toNatClampNeg, .inl (va_cpy v0_f (fun _ => (0 : Int32)) 0 0 v0_m)))] := hD
  have hS := hS1
  refine va_put (D := g.1) (ci := 0) (v := .ref ra) (ty := .array .byte) (C := RJ4) (T := TJ4) (N := 4) hx hb hts layJ4 tyJ4 tyJ4_ok nmJ4 hown hK.1 hP hD hS 0 rfl rfl 0 (by decide) (hts _ kw221) (fun _ h9 => h9) rfl (tyJ4_ok 0 (by decide)) rfl rfl (Nat.le_of_ble_eq_true rfl) dJ5_ensureCapacityInternal_d00df_35 (fun H locs hP hD hS => ?_)
  have hP : va_P g.1 vwCl [(a0 0, .inr (0, [.ref ra, .int 0, .int v0_l, .int v0_n])), (v0_a, .inl (g.2.2.2.1, v0_m, .inl v0_f)), (ra, .inl (g.2.2.2.1, k.toNatClampNeg, .inl (va_cpy v0_f (fun _ => (0 : Int32)) 0 0 v0_m)))] H := hP
  have hD : va_D A [(a0 0, .inr (0, [.ref ra, .int 0, .int v0_l, .int v0_n])), (v0_a, .inl (g.2.2.2.1, v0_m, .inl v0_f)), (ra, .inl (g.2.2.2.1, k.toNatClampNeg, .inl (va_cpy v0_f (fun _ => (0 : Int32)) 0 0 v0_m)))] := hD
  have hPE := subPD (Wc := wSBX a0 g ra k.toNatClampNeg (va_cpy v0_f (fun _ => (0 : Int32)) 0 0 v0_m) v0_l v0_n) hP hD [0, 2] rfl rfl
  exact retVg (u := (k.toNatClampNeg, va_cpy v0_f (fun _ => (0 : Int32)) 0 0 v0_m)) (ga := ra) (W1 := fun u ga => wSBX a0 g ga u.1 u.2 v0_l v0_n) hx hb hr hlocks hS hPE.1 hPE.2 (hf0.trans hf.symm) dJ5_ensureCapacityInternal_d00df_38
