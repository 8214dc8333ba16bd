abbrev TBA : Type := Nat × (Nat → Int32)
abbrev pBA_m (s : TBA) : Nat := s.1
abbrev pBA_f (s : TBA) : Nat → Int32 := s.2
abbrev uBA_m (x : Nat) (s : TBA) : TBA := (x, s.2)
abbrev uBA_f (x : Nat → Int32) (s : TBA) : TBA := (s.1, x)
abbrev wSBX (a : Nat → Nat) (g : GG) (va m : Nat) (f : Nat → Int32) (l n : Int32) : va_W := wSB (a 0) va g m f l n
abbrev wBAX (a : Nat → Nat) (g : GG) (m : Nat) (f : Nat → Int32) : va_W := [(a 0, .inl (g.2.2.2.1, m, .inl f))]
theorem fitS (t i : Nat) : fits .byte (.int ((bytS.getD t []).getD i 0)) = true := by
  have h : ∀ r ∈ bytS, ∀ x ∈ r, fits .byte (.int x) = true := by decide +kernel
  have key : ∀ r : List Int32, (∀ x ∈ r, fits .byte (.int x) = true) → fits .byte (.int (r.getD i 0)) = true := by
    intro r hr
    rw [List.getD_eq_getElem?_getD]
    cases hq : r[i]? with
    | none => rfl
    | some x => exact hr x (List.mem_of_getElem? hq)
  refine key _ ?_
  rw [List.getD_eq_getElem?_getD]
  cases hq : bytS[t]? with
  | none => intro x hx; cases hx
  | some r => exact h r (List.mem_of_getElem? hq)
def m_J5_isLatin1_aae02 (s0 : TSB) : Option (Int32) :=
  if (1 : Int32) = 0 then (none) else (if (0 : Int32) = 0 then (some (1 : Int32)) else (none))
def m_J8_newLength_cabcc (p0 : Int32) (p1 : Int32) (p2 : Int32) : Option (Int32) :=
  (some (if p1 < p2 then p2 else p1)).bind fun x1 => Option.bind (α := (Unit) ⊕ (Int32)) (if (p0 + x1) ≤ (0 : Int32) then (some (.inl ())) else (if (2147483639 : Int32) < (p0 + x1) then (some (.inl ())) else (some (.inr (p0 + x1))))) fun r2 => match r2 with | .inl x3 => (none) | .inr v => some v
def m_J5_newCapacity_0f7a4 (s0 : TSB) (p1 : Int32) : Option (Int32) :=
  (m_J8_newLength_cabcc (nI (pSB_m s0)) ((p1 <<< ((0 : Int32) &&& 31)) - (nI (pSB_m s0))) ((nI (pSB_m s0)) + ((2 : Int32) <<< ((0 : Int32) &&& 31)))).bind fun x1 => if x1 = (2147483647 : Int32) then (none) else (some (x1 >>> ((0 : Int32) &&& 31)))
def m_J6_stringSize_0f7a4_l16 (r1 : Int32 × Int32) (x2 : Int32) (x3 : Int32) : Option ((Int32 × Int32) ⊕ ((Int32) ⊕ (Unit))) :=
  if (10 : Int32) ≤ x3 then (some (.inr (.inr ()))) else (if r1.1 ≤ x2 then (some (.inl (((10 : Int32) * x2), (x3 + 1)))) else (some (.inr (.inl x3))))
def m_J6_stringSize_0f7a4 (p0 : Int32) : Option (Int32) :=
  Option.bind (α := Int32 × Int32) (if p0 < 0 then (some (p0, (1 : Int32))) else (some ((-p0), (0 : Int32)))) fun r1 => (lp (fun z : Int32 × Int32 => m_J6_stringSize_0f7a4_l16 r1 z.1 z.2) fu ((-10 : Int32), (1 : Int32))).bind fun r4 => match r4 with | .inl x5 => (some (x5 + r1.2)) | .inr x6 => (some ((10 : Int32) + r1.2))
def m_J6_getChars_ba4f3_l22 (s0 : TBA) (x3 : Int32) (x4 : Int32) (x5 : (Nat → Int32)) : Option ((Int32 × Int32 × (Nat → Int32)) ⊕ (Int32 × Int32 × (Nat → Int32))) :=
  if (-100 : Int32) < x3 then (some (.inr (x3, x4, x5))) else (if inb (((x3 / (100 : Int32)) * (100 : Int32)) - x3) 100 = true then (if inb (x4 + (-1)) (pBA_m s0) = true then (if inb (((x3 / (100 : Int32)) * (100 : Int32)) - x3) 100 = true then (if inb ((x4 + (-1)) + (-1)) (pBA_m s0) = true then (some (.inl ((x3 / (100 : Int32)), ((x4 + (-1)) + (-1)), (upd (upd x5 (x4 + (-1)).toNatClampNeg (vp_nar .byte (dgO (((x3 / (100 : Int32)) * (100 : Int32)) - x3).toNatClampNeg))) ((x4 + (-1)) + (-1)).toNatClampNeg (vp_nar .byte (dgT (((x3 / (100 : Int32)) * (100 : Int32)) - x3).toNatClampNeg)))))) else none) else none) else none) else none)
def m_J6_getChars_ba4f3 (s0 : TBA) (p0 : Int32) (p1 : Int32) : Option (Int32 × (Nat → Int32)) :=
  Option.bind (α := Int32) (if 0 ≤ p0 then (some (0 : Int32)) else (some (1 : Int32))) fun r1 => Option.bind (α := Int32) (if r1 = 0 then (some (-p0)) else (some p0)) fun r2 => (lp (fun z : Int32 × Int32 × (Nat → Int32) => m_J6_getChars_ba4f3_l22 s0 z.1 z.2.1 z.2.2) fu (r2, p1, (pBA_f s0))).bind fun r6 => if inb (-r6.1) 100 = true then (if inb (r6.2.1 + (-1)) (pBA_m s0) = true then (Option.bind (α := Int32 × (Nat → Int32)) (if (-9 : Int32) ≤ r6.1 then (some ((r6.2.1 + (-1)), (upd r6.2.2 (r6.2.1 + (-1)).toNatClampNeg (vp_nar .byte (dgO (-r6.1).toNatClampNeg))))) else (if inb (-r6.1) 100 = true then (if inb ((r6.2.1 + (-1)) + (-1)) (pBA_m s0) = true then (some (((r6.2.1 + (-1)) + (-1)), (upd (upd r6.2.2 (r6.2.1 + (-1)).toNatClampNeg (vp_nar .byte (dgO (-r6.1).toNatClampNeg))) ((r6.2.1 + (-1)) + (-1)).toNatClampNeg (vp_nar .byte (dgT (-r6.1).toNatClampNeg))))) else none) else none)) fun r7 => if r1 = 0 then (some (r7.1, r7.2)) else (if inb (r7.1 + (-1)) (pBA_m s0) = true then (some ((r7.1 + (-1)), (upd r7.2 (r7.1 + (-1)).toNatClampNeg (vp_nar .byte (45 : Int32))))) else none)) else none) else none
def m_J1_canEncode_fc78d (p0 : Int32) : Option (Int32) :=
  if (255 : Int32) < p0 then (some (0 : Int32)) else (some (1 : Int32))
def m_J5_length_8abf5 (s0 : TSB) : Option (Int32) :=
  some (pSB_n s0)
def m_J4_length_8abf5 (s0 : TSB) : Option (Int32) :=
  (m_J5_length_8abf5 s0).bind fun x1 => some x1
def m_J5_charAt_5068e (s0 : TSB) (p1 : Int32) : Option (Int32) :=
  (some (if ((nI (pSB_m s0)) >>> ((0 : Int32) &&& 31)) < (pSB_n s0) then ((nI (pSB_m s0)) >>> ((0 : Int32) &&& 31)) else (pSB_n s0))).bind fun x1 => (m_J0_checkIndex_df160 p1 x1).bind fun x2 => if (0 : Int32) = 0 then (if inb p1 (pSB_m s0) = true then (some ((((pSB_f s0) p1.toNatClampNeg) &&& (255 : Int32)).toUInt32 % 65536).toInt32) else none) else (none)
def m_J4_charAt_5068e (s0 : TSB) (p1 : Int32) : Option (Int32) :=
  (m_J5_charAt_5068e s0 p1).bind fun x1 => some x1
def m_J0_getBytes_840e7 (s0 : TBA) (t0 : Nat) (p2 : Int32) (p3 : Int32) : Option ((Nat → Int32)) :=
  if t0 < 10 then (if t0 < 10 then ((m_J0_coder_7d493 t0).bind fun x1 => if x1 = p3 then (if (¬ (0 : Int32) < 0 ∧ ¬ (p2 <<< (p3 &&& 31)) < 0 ∧ ¬ (nI (lenS.getD t0 0)) < 0 ∧ (0 : Int32).toNatClampNeg + (nI (lenS.getD t0 0)).toNatClampNeg ≤ lenS.getD t0 0 ∧ (p2 <<< (p3 &&& 31)).toNatClampNeg + (nI (lenS.getD t0 0)).toNatClampNeg ≤ (pBA_m s0)) then (some (va_cpy (fun j => (bytS.getD t0 []).getD j 0) (pBA_f s0) (0 : Int32).toNatClampNeg (p2 <<< (p3 &&& 31)).toNatClampNeg (nI (lenS.getD t0 0)).toNatClampNeg)) else none) else (none)) else none) else none
def m_J5_inflateIfNeededFor_a7421 (s0 : TSB) (p1 : Nat) : Option (Unit) :=
  if (1 : Int32) = 0 then (some ()) else (if p1 < 10 then ((m_J0_coder_7d493 p1).bind fun x1 => if (0 : Int32) = x1 then (some ()) else (none)) else none)
def m_J5_putStringAt_47b60 (s0 : TSB) (p1 : Int32) (p2 : Nat) : Option ((Nat → Int32)) :=
  (m_J5_inflateIfNeededFor_a7421 s0 p2).bind fun x1 => if p2 < 10 then ((m_J0_getBytes_840e7 ((pSB_m s0), (pSB_f s0)) p2 p1 (0 : Int32)).bind fun x2 => some x2) else none
theorem svS_J8_newLength_cabcc : SS RJ8 yJ8_newLength_cabcc cJ8_newLength_cabcc 4 (some .int) 3 := ⟨kw985, kw20, kw986, rfl, by decide, by decide, by decide +kernel⟩
theorem svU_J5_length_8abf5 : Cond.sameMethod (yJ5_length_8abf5).cls (yJ5_length_8abf5).cls (yJ5_length_8abf5).name (yJ5_length_8abf5).desc ∈ G ∧ Cond.superclass RJ4 (yJ5_length_8abf5).cls ∈ G ∧ Cond.instanceMethod yJ5_length_8abf5 ∈ G ∧ Cond.initialized (yJ5_length_8abf5).cls ∈ G ∧ Cond.code yJ5_length_8abf5 cJ5_length_8abf5 1 (some .int) ∈ G ∧ (yJ5_length_8abf5).name ≠ "<init>" ∧ (parseMethodDescriptor (yJ5_length_8abf5).desc).map (fun d => d.parameters.length) = some 0 := ⟨kw1783, kw229, kw1128, kw12, kw1129, by decide, by decide +kernel⟩
theorem svU_J5_charAt_5068e : Cond.sameMethod (yJ5_charAt_5068e).cls (yJ5_charAt_5068e).cls (yJ5_charAt_5068e).name (yJ5_charAt_5068e).desc ∈ G ∧ Cond.superclass RJ4 (yJ5_charAt_5068e).cls ∈ G ∧ Cond.instanceMethod yJ5_charAt_5068e ∈ G ∧ Cond.initialized (yJ5_charAt_5068e).cls ∈ G ∧ Cond.code yJ5_charAt_5068e cJ5_charAt_5068e 5 (some .char) ∈ G ∧ (yJ5_charAt_5068e).name ≠ "<init>" ∧ (parseMethodDescriptor (yJ5_charAt_5068e).desc).map (fun d => d.parameters.length) = some 1 := ⟨kw1784, kw229, kw1135, kw12, kw1136, by decide, by decide +kernel⟩
theorem svP_J5_inflateIfNeededFor_a7421 : Cond.sameMethod (yJ5_inflateIfNeededFor_a7421).cls (yJ5_inflateIfNeededFor_a7421).cls (yJ5_inflateIfNeededFor_a7421).name (yJ5_inflateIfNeededFor_a7421).desc ∈ G ∧ Cond.instanceMethod yJ5_inflateIfNeededFor_a7421 ∈ G ∧ Cond.selects RJ4 yJ5_inflateIfNeededFor_a7421 yJ5_inflateIfNeededFor_a7421 ∈ sbS ∧ Cond.initialized (yJ5_inflateIfNeededFor_a7421).cls ∈ G ∧ Cond.code yJ5_inflateIfNeededFor_a7421 cJ5_inflateIfNeededFor_a7421 2 none ∈ G ∧ (yJ5_inflateIfNeededFor_a7421).cls ≠ "java/lang/invoke/MethodHandle" ∧ (yJ5_inflateIfNeededFor_a7421).cls ≠ "java/lang/invoke/VarHandle" ∧ (parseMethodDescriptor (yJ5_inflateIfNeededFor_a7421).desc).map (fun d => d.parameters.length) = some 1 := ⟨kw1782, kw1114, by unfold sbS; exact List.Mem.tail _ (List.Mem.tail _ (List.Mem.tail _ (List.Mem.head _))), kw12, kw1115, by decide, by decide, by decide +kernel⟩
theorem svV_J0_getBytes_840e7 : SV RJ0 yJ0_getBytes_840e7 cJ0_getBytes_840e7 4 none 3 := ⟨kw1118, kw1119, kw14, kw1120, rfl, by decide, by decide, by decide +kernel⟩
theorem dJ0_getBytes_840e7_0 : decode cJ0_getBytes_840e7 0 = .ok (.aload_n 0, 1) := by decide +kernel
theorem dJ0_getBytes_840e7_1 : decode cJ0_getBytes_840e7 1 = .ok (.invokevirtual 335, 3) := by decide +kernel
theorem dJ0_getBytes_840e7_12 : decode cJ0_getBytes_840e7 12 = .ok (.iconst 0, 1) := by decide +kernel
theorem dJ0_getBytes_840e7_13 : decode cJ0_getBytes_840e7 13 = .ok (.aload_n 1, 1) := by decide +kernel
theorem dJ0_getBytes_840e7_14 : decode cJ0_getBytes_840e7 14 = .ok (.iload_n 2, 1) := by decide +kernel
theorem dJ0_getBytes_840e7_15 : decode cJ0_getBytes_840e7 15 = .ok (.iload_n 3, 1) := by decide +kernel
theorem dJ0_getBytes_840e7_16 : decode cJ0_getBytes_840e7 16 = .ok (.ishl, 1) := by decide +kernel
theorem dJ0_getBytes_840e7_17 : decode cJ0_getBytes_840e7 17 = .ok (.aload_n 0, 1) := by decide +kernel
theorem dJ0_getBytes_840e7_18 : decode cJ0_getBytes_840e7 18 = .ok (.getfield 9, 3) := by decide +kernel
theorem dJ0_getBytes_840e7_21 : decode cJ0_getBytes_840e7 21 = .ok (.arraylength, 1) := by decide +kernel
theorem dJ0_getBytes_840e7_22 : decode cJ0_getBytes_840e7 22 = .ok (.invokestatic 212, 3) := by decide +kernel
theorem dJ0_getBytes_840e7_25 : decode cJ0_getBytes_840e7 25 = .ok (.goto 18, 3) := by decide +kernel
theorem dJ0_getBytes_840e7_4 : decode cJ0_getBytes_840e7 4 = .ok (.iload_n 3, 1) := by decide +kernel
theorem dJ0_getBytes_840e7_43 : decode cJ0_getBytes_840e7 43 = .ok (.return_, 1) := by decide +kernel
theorem dJ0_getBytes_840e7_5 : decode cJ0_getBytes_840e7 5 = .ok (.if_icmp .ne 23, 3) := by decide +kernel
theorem dJ0_getBytes_840e7_8 : decode cJ0_getBytes_840e7 8 = .ok (.aload_n 0, 1) := by decide +kernel
theorem dJ0_getBytes_840e7_9 : decode cJ0_getBytes_840e7 9 = .ok (.getfield 9, 3) := by decide +kernel
theorem dJ1_canEncode_fc78d_0 : decode cJ1_canEncode_fc78d 0 = .ok (.iload_n 0, 1) := by decide +kernel
theorem dJ1_canEncode_fc78d_1 : decode cJ1_canEncode_fc78d 1 = .ok (.sipush 255, 3) := by decide +kernel
theorem dJ1_canEncode_fc78d_11 : decode cJ1_canEncode_fc78d 11 = .ok (.iconst 0, 1) := by decide +kernel
theorem dJ1_canEncode_fc78d_12 : decode cJ1_canEncode_fc78d 12 = .ok (.ireturn, 1) := by decide +kernel
theorem dJ1_canEncode_fc78d_4 : decode cJ1_canEncode_fc78d 4 = .ok (.if_icmp .gt 7, 3) := by decide +kernel
theorem dJ1_canEncode_fc78d_7 : decode cJ1_canEncode_fc78d 7 = .ok (.iconst 1, 1) := by decide +kernel
theorem dJ1_canEncode_fc78d_8 : decode cJ1_canEncode_fc78d 8 = .ok (.goto 4, 3) := by decide +kernel
theorem dJ4_charAt_5068e_0 : decode cJ4_charAt_5068e 0 = .ok (.aload_n 0, 1) := by decide +kernel
theorem dJ4_charAt_5068e_1 : decode cJ4_charAt_5068e 1 = .ok (.iload_n 1, 1) := by decide +kernel
theorem dJ4_charAt_5068e_2 : decode cJ4_charAt_5068e 2 = .ok (.invokespecial 329, 3) := by decide +kernel
theorem dJ4_charAt_5068e_5 : decode cJ4_charAt_5068e 5 = .ok (.ireturn, 1) := by decide +kernel
theorem dJ4_length_8abf5_0 : decode cJ4_length_8abf5 0 = .ok (.aload_n 0, 1) := by decide +kernel
theorem dJ4_length_8abf5_1 : decode cJ4_length_8abf5 1 = .ok (.invokespecial 343, 3) := by decide +kernel
theorem dJ4_length_8abf5_4 : decode cJ4_length_8abf5 4 = .ok (.ireturn, 1) := by decide +kernel
theorem dJ5_charAt_5068e_0 : decode cJ5_charAt_5068e 0 = .ok (.aload_n 0, 1) := by decide +kernel
theorem dJ5_charAt_5068e_1 : decode cJ5_charAt_5068e 1 = .ok (.getfield 22, 3) := by decide +kernel
theorem dJ5_charAt_5068e_10 : decode cJ5_charAt_5068e 10 = .ok (.aload_n 0, 1) := by decide +kernel
theorem dJ5_charAt_5068e_11 : decode cJ5_charAt_5068e 11 = .ok (.getfield 79, 3) := by decide +kernel
theorem dJ5_charAt_5068e_14 : decode cJ5_charAt_5068e 14 = .ok (.aload_n 3, 1) := by decide +kernel
theorem dJ5_charAt_5068e_15 : decode cJ5_charAt_5068e 15 = .ok (.arraylength, 1) := by decide +kernel
theorem dJ5_charAt_5068e_16 : decode cJ5_charAt_5068e 16 = .ok (.iload_n 2, 1) := by decide +kernel
theorem dJ5_charAt_5068e_17 : decode cJ5_charAt_5068e 17 = .ok (.ishr, 1) := by decide +kernel
theorem dJ5_charAt_5068e_18 : decode cJ5_charAt_5068e 18 = .ok (.invokestatic 138, 3) := by decide +kernel
theorem dJ5_charAt_5068e_21 : decode cJ5_charAt_5068e 21 = .ok (.istore 4, 2) := by decide +kernel
theorem dJ5_charAt_5068e_23 : decode cJ5_charAt_5068e 23 = .ok (.iload_n 1, 1) := by decide +kernel
theorem dJ5_charAt_5068e_24 : decode cJ5_charAt_5068e 24 = .ok (.iload 4, 2) := by decide +kernel
theorem dJ5_charAt_5068e_26 : decode cJ5_charAt_5068e 26 = .ok (.invokestatic 144, 3) := by decide +kernel
theorem dJ5_charAt_5068e_29 : decode cJ5_charAt_5068e 29 = .ok (.iload_n 2, 1) := by decide +kernel
theorem dJ5_charAt_5068e_30 : decode cJ5_charAt_5068e 30 = .ok (.ifCond .ne 12, 3) := by decide +kernel
theorem dJ5_charAt_5068e_33 : decode cJ5_charAt_5068e 33 = .ok (.aload_n 3, 1) := by decide +kernel
theorem dJ5_charAt_5068e_34 : decode cJ5_charAt_5068e 34 = .ok (.iload_n 1, 1) := by decide +kernel
theorem dJ5_charAt_5068e_35 : decode cJ5_charAt_5068e 35 = .ok (.baload, 1) := by decide +kernel
theorem dJ5_charAt_5068e_36 : decode cJ5_charAt_5068e 36 = .ok (.sipush 255, 3) := by decide +kernel
theorem dJ5_charAt_5068e_39 : decode cJ5_charAt_5068e 39 = .ok (.iand, 1) := by decide +kernel
theorem dJ5_charAt_5068e_4 : decode cJ5_charAt_5068e 4 = .ok (.istore_n 2, 1) := by decide +kernel
theorem dJ5_charAt_5068e_40 : decode cJ5_charAt_5068e 40 = .ok (.i2c, 1) := by decide +kernel
theorem dJ5_charAt_5068e_41 : decode cJ5_charAt_5068e 41 = .ok (.ireturn, 1) := by decide +kernel
theorem dJ5_charAt_5068e_5 : decode cJ5_charAt_5068e 5 = .ok (.aload_n 0, 1) := by decide +kernel
theorem dJ5_charAt_5068e_6 : decode cJ5_charAt_5068e 6 = .ok (.getfield 15, 3) := by decide +kernel
theorem dJ5_charAt_5068e_9 : decode cJ5_charAt_5068e 9 = .ok (.astore_n 3, 1) := by decide +kernel
theorem dJ5_inflateIfNeededFor_a7421_0 : decode cJ5_inflateIfNeededFor_a7421 0 = .ok (.getstatic 18, 3) := by decide +kernel
theorem dJ5_inflateIfNeededFor_a7421_10 : decode cJ5_inflateIfNeededFor_a7421 10 = .ok (.aload_n 1, 1) := by decide +kernel
theorem dJ5_inflateIfNeededFor_a7421_11 : decode cJ5_inflateIfNeededFor_a7421 11 = .ok (.invokevirtual 40, 3) := by decide +kernel
theorem dJ5_inflateIfNeededFor_a7421_14 : decode cJ5_inflateIfNeededFor_a7421 14 = .ok (.if_icmp .eq 7, 3) := by decide +kernel
theorem dJ5_inflateIfNeededFor_a7421_21 : decode cJ5_inflateIfNeededFor_a7421 21 = .ok (.return_, 1) := by decide +kernel
theorem dJ5_inflateIfNeededFor_a7421_3 : decode cJ5_inflateIfNeededFor_a7421 3 = .ok (.ifCond .eq 18, 3) := by decide +kernel
theorem dJ5_inflateIfNeededFor_a7421_6 : decode cJ5_inflateIfNeededFor_a7421 6 = .ok (.aload_n 0, 1) := by decide +kernel
theorem dJ5_inflateIfNeededFor_a7421_7 : decode cJ5_inflateIfNeededFor_a7421 7 = .ok (.getfield 22, 3) := by decide +kernel
theorem dJ5_isLatin1_aae02_0 : decode cJ5_isLatin1_aae02 0 = .ok (.getstatic 18, 3) := by decide +kernel
theorem dJ5_isLatin1_aae02_10 : decode cJ5_isLatin1_aae02 10 = .ok (.ifCond .ne 7, 3) := by decide +kernel
theorem dJ5_isLatin1_aae02_13 : decode cJ5_isLatin1_aae02 13 = .ok (.iconst 1, 1) := by decide +kernel
theorem dJ5_isLatin1_aae02_14 : decode cJ5_isLatin1_aae02 14 = .ok (.goto 4, 3) := by decide +kernel
theorem dJ5_isLatin1_aae02_18 : decode cJ5_isLatin1_aae02 18 = .ok (.ireturn, 1) := by decide +kernel
theorem dJ5_isLatin1_aae02_3 : decode cJ5_isLatin1_aae02 3 = .ok (.ifCond .eq 14, 3) := by decide +kernel
theorem dJ5_isLatin1_aae02_6 : decode cJ5_isLatin1_aae02 6 = .ok (.aload_n 0, 1) := by decide +kernel
theorem dJ5_isLatin1_aae02_7 : decode cJ5_isLatin1_aae02 7 = .ok (.getfield 22, 3) := by decide +kernel
theorem dJ5_length_8abf5_0 : decode cJ5_length_8abf5 0 = .ok (.aload_n 0, 1) := by decide +kernel
theorem dJ5_length_8abf5_1 : decode cJ5_length_8abf5 1 = .ok (.getfield 79, 3) := by decide +kernel
theorem dJ5_length_8abf5_4 : decode cJ5_length_8abf5 4 = .ok (.ireturn, 1) := by decide +kernel
theorem dJ5_newCapacity_0f7a4_0 : decode cJ5_newCapacity_0f7a4 0 = .ok (.aload_n 0, 1) := by decide +kernel
theorem dJ5_newCapacity_0f7a4_1 : decode cJ5_newCapacity_0f7a4 1 = .ok (.getfield 15, 3) := by decide +kernel
theorem dJ5_newCapacity_0f7a4_11 : decode cJ5_newCapacity_0f7a4 11 = .ok (.ishl, 1) := by decide +kernel
theorem dJ5_newCapacity_0f7a4_12 : decode cJ5_newCapacity_0f7a4 12 = .ok (.istore_n 3, 1) := by decide +kernel
theorem dJ5_newCapacity_0f7a4_13 : decode cJ5_newCapacity_0f7a4 13 = .ok (.iload_n 3, 1) := by decide +kernel
theorem dJ5_newCapacity_0f7a4_14 : decode cJ5_newCapacity_0f7a4 14 = .ok (.iload_n 2, 1) := by decide +kernel
theorem dJ5_newCapacity_0f7a4_15 : decode cJ5_newCapacity_0f7a4 15 = .ok (.isub, 1) := by decide +kernel
theorem dJ5_newCapacity_0f7a4_16 : decode cJ5_newCapacity_0f7a4 16 = .ok (.istore 4, 2) := by decide +kernel
theorem dJ5_newCapacity_0f7a4_18 : decode cJ5_newCapacity_0f7a4 18 = .ok (.iload_n 2, 1) := by decide +kernel
theorem dJ5_newCapacity_0f7a4_19 : decode cJ5_newCapacity_0f7a4 19 = .ok (.iload 4, 2) := by decide +kernel
theorem dJ5_newCapacity_0f7a4_21 : decode cJ5_newCapacity_0f7a4 21 = .ok (.iload_n 2, 1) := by decide +kernel
theorem dJ5_newCapacity_0f7a4_22 : decode cJ5_newCapacity_0f7a4 22 = .ok (.iconst 2, 1) := by decide +kernel
theorem dJ5_newCapacity_0f7a4_23 : decode cJ5_newCapacity_0f7a4 23 = .ok (.aload_n 0, 1) := by decide +kernel
theorem dJ5_newCapacity_0f7a4_24 : decode cJ5_newCapacity_0f7a4 24 = .ok (.getfield 22, 3) := by decide +kernel
theorem dJ5_newCapacity_0f7a4_27 : decode cJ5_newCapacity_0f7a4 27 = .ok (.ishl, 1) := by decide +kernel
theorem dJ5_newCapacity_0f7a4_28 : decode cJ5_newCapacity_0f7a4 28 = .ok (.iadd, 1) := by decide +kernel
theorem dJ5_newCapacity_0f7a4_29 : decode cJ5_newCapacity_0f7a4 29 = .ok (.invokestatic 114, 3) := by decide +kernel
theorem dJ5_newCapacity_0f7a4_32 : decode cJ5_newCapacity_0f7a4 32 = .ok (.istore 5, 2) := by decide +kernel
theorem dJ5_newCapacity_0f7a4_34 : decode cJ5_newCapacity_0f7a4 34 = .ok (.iload 5, 2) := by decide +kernel
theorem dJ5_newCapacity_0f7a4_36 : decode cJ5_newCapacity_0f7a4 36 = .ok (.ldc 39, 2) := by decide +kernel
theorem dJ5_newCapacity_0f7a4_38 : decode cJ5_newCapacity_0f7a4 38 = .ok (.if_icmp .ne 13, 3) := by decide +kernel
theorem dJ5_newCapacity_0f7a4_4 : decode cJ5_newCapacity_0f7a4 4 = .ok (.arraylength, 1) := by decide +kernel
theorem dJ5_newCapacity_0f7a4_5 : decode cJ5_newCapacity_0f7a4 5 = .ok (.istore_n 2, 1) := by decide +kernel
theorem dJ5_newCapacity_0f7a4_51 : decode cJ5_newCapacity_0f7a4 51 = .ok (.iload 5, 2) := by decide +kernel
theorem dJ5_newCapacity_0f7a4_53 : decode cJ5_newCapacity_0f7a4 53 = .ok (.aload_n 0, 1) := by decide +kernel
theorem dJ5_newCapacity_0f7a4_54 : decode cJ5_newCapacity_0f7a4 54 = .ok (.getfield 22, 3) := by decide +kernel
theorem dJ5_newCapacity_0f7a4_57 : decode cJ5_newCapacity_0f7a4 57 = .ok (.ishr, 1) := by decide +kernel
theorem dJ5_newCapacity_0f7a4_58 : decode cJ5_newCapacity_0f7a4 58 = .ok (.ireturn, 1) := by decide +kernel
theorem dJ5_newCapacity_0f7a4_6 : decode cJ5_newCapacity_0f7a4 6 = .ok (.iload_n 1, 1) := by decide +kernel
theorem dJ5_newCapacity_0f7a4_7 : decode cJ5_newCapacity_0f7a4 7 = .ok (.aload_n 0, 1) := by decide +kernel
theorem dJ5_newCapacity_0f7a4_8 : decode cJ5_newCapacity_0f7a4 8 = .ok (.getfield 22, 3) := by decide +kernel
theorem dJ5_putStringAt_47b60_0 : decode cJ5_putStringAt_47b60 0 = .ok (.aload_n 0, 1) := by decide +kernel
theorem dJ5_putStringAt_47b60_1 : decode cJ5_putStringAt_47b60 1 = .ok (.aload_n 2, 1) := by decide +kernel
theorem dJ5_putStringAt_47b60_10 : decode cJ5_putStringAt_47b60 10 = .ok (.iload_n 1, 1) := by decide +kernel
theorem dJ5_putStringAt_47b60_11 : decode cJ5_putStringAt_47b60 11 = .ok (.aload_n 0, 1) := by decide +kernel
theorem dJ5_putStringAt_47b60_12 : decode cJ5_putStringAt_47b60 12 = .ok (.getfield 22, 3) := by decide +kernel
theorem dJ5_putStringAt_47b60_15 : decode cJ5_putStringAt_47b60 15 = .ok (.invokevirtual 399, 3) := by decide +kernel
theorem dJ5_putStringAt_47b60_18 : decode cJ5_putStringAt_47b60 18 = .ok (.return_, 1) := by decide +kernel
theorem dJ5_putStringAt_47b60_2 : decode cJ5_putStringAt_47b60 2 = .ok (.invokevirtual 397, 3) := by decide +kernel
theorem dJ5_putStringAt_47b60_5 : decode cJ5_putStringAt_47b60 5 = .ok (.aload_n 2, 1) := by decide +kernel
theorem dJ5_putStringAt_47b60_6 : decode cJ5_putStringAt_47b60 6 = .ok (.aload_n 0, 1) := by decide +kernel
theorem dJ5_putStringAt_47b60_7 : decode cJ5_putStringAt_47b60 7 = .ok (.getfield 15, 3) := by decide +kernel
theorem dJ6_getChars_ba4f3_0 : decode cJ6_getChars_ba4f3 0 = .ok (.iload_n 1, 1) := by decide +kernel
theorem dJ6_getChars_ba4f3_1 : decode cJ6_getChars_ba4f3 1 = .ok (.istore 5, 2) := by decide +kernel
theorem dJ6_getChars_ba4f3_100 : decode cJ6_getChars_ba4f3 100 = .ok (.iload_n 0, 1) := by decide +kernel
theorem dJ6_getChars_ba4f3_101 : decode cJ6_getChars_ba4f3 101 = .ok (.ineg, 1) := by decide +kernel
theorem dJ6_getChars_ba4f3_102 : decode cJ6_getChars_ba4f3 102 = .ok (.baload, 1) := by decide +kernel
theorem dJ6_getChars_ba4f3_103 : decode cJ6_getChars_ba4f3 103 = .ok (.bastore, 1) := by decide +kernel
theorem dJ6_getChars_ba4f3_104 : decode cJ6_getChars_ba4f3 104 = .ok (.iload 6, 2) := by decide +kernel
theorem dJ6_getChars_ba4f3_106 : decode cJ6_getChars_ba4f3 106 = .ok (.ifCond .eq 12, 3) := by decide +kernel
theorem dJ6_getChars_ba4f3_109 : decode cJ6_getChars_ba4f3 109 = .ok (.aload_n 2, 1) := by decide +kernel
theorem dJ6_getChars_ba4f3_11 : decode cJ6_getChars_ba4f3 11 = .ok (.iconst 0, 1) := by decide +kernel
theorem dJ6_getChars_ba4f3_110 : decode cJ6_getChars_ba4f3 110 = .ok (.iinc 5 (-1), 3) := by decide +kernel
theorem dJ6_getChars_ba4f3_113 : decode cJ6_getChars_ba4f3 113 = .ok (.iload 5, 2) := by decide +kernel
theorem dJ6_getChars_ba4f3_115 : decode cJ6_getChars_ba4f3 115 = .ok (.bipush 45, 2) := by decide +kernel
theorem dJ6_getChars_ba4f3_117 : decode cJ6_getChars_ba4f3 117 = .ok (.bastore, 1) := by decide +kernel
theorem dJ6_getChars_ba4f3_118 : decode cJ6_getChars_ba4f3 118 = .ok (.iload 5, 2) := by decide +kernel
theorem dJ6_getChars_ba4f3_12 : decode cJ6_getChars_ba4f3 12 = .ok (.istore 6, 2) := by decide +kernel
theorem dJ6_getChars_ba4f3_120 : decode cJ6_getChars_ba4f3 120 = .ok (.ireturn, 1) := by decide +kernel
theorem dJ6_getChars_ba4f3_14 : decode cJ6_getChars_ba4f3 14 = .ok (.iload 6, 2) := by decide +kernel
theorem dJ6_getChars_ba4f3_16 : decode cJ6_getChars_ba4f3 16 = .ok (.ifCond .ne 6, 3) := by decide +kernel
theorem dJ6_getChars_ba4f3_19 : decode cJ6_getChars_ba4f3 19 = .ok (.iload_n 0, 1) := by decide +kernel
theorem dJ6_getChars_ba4f3_20 : decode cJ6_getChars_ba4f3 20 = .ok (.ineg, 1) := by decide +kernel
theorem dJ6_getChars_ba4f3_21 : decode cJ6_getChars_ba4f3 21 = .ok (.istore_n 0, 1) := by decide +kernel
theorem dJ6_getChars_ba4f3_22 : decode cJ6_getChars_ba4f3 22 = .ok (.iload_n 0, 1) := by decide +kernel
theorem dJ6_getChars_ba4f3_23 : decode cJ6_getChars_ba4f3 23 = .ok (.bipush (-100), 2) := by decide +kernel
theorem dJ6_getChars_ba4f3_25 : decode cJ6_getChars_ba4f3 25 = .ok (.if_icmp .gt 47, 3) := by decide +kernel
theorem dJ6_getChars_ba4f3_28 : decode cJ6_getChars_ba4f3 28 = .ok (.iload_n 0, 1) := by decide +kernel
theorem dJ6_getChars_ba4f3_29 : decode cJ6_getChars_ba4f3 29 = .ok (.bipush 100, 2) := by decide +kernel
theorem dJ6_getChars_ba4f3_3 : decode cJ6_getChars_ba4f3 3 = .ok (.iload_n 0, 1) := by decide +kernel
theorem dJ6_getChars_ba4f3_31 : decode cJ6_getChars_ba4f3 31 = .ok (.idiv, 1) := by decide +kernel
theorem dJ6_getChars_ba4f3_32 : decode cJ6_getChars_ba4f3 32 = .ok (.istore_n 3, 1) := by decide +kernel
theorem dJ6_getChars_ba4f3_33 : decode cJ6_getChars_ba4f3 33 = .ok (.iload_n 3, 1) := by decide +kernel
theorem dJ6_getChars_ba4f3_34 : decode cJ6_getChars_ba4f3 34 = .ok (.bipush 100, 2) := by decide +kernel
theorem dJ6_getChars_ba4f3_36 : decode cJ6_getChars_ba4f3 36 = .ok (.imul, 1) := by decide +kernel
theorem dJ6_getChars_ba4f3_37 : decode cJ6_getChars_ba4f3 37 = .ok (.iload_n 0, 1) := by decide +kernel
theorem dJ6_getChars_ba4f3_38 : decode cJ6_getChars_ba4f3 38 = .ok (.isub, 1) := by decide +kernel
theorem dJ6_getChars_ba4f3_39 : decode cJ6_getChars_ba4f3 39 = .ok (.istore 4, 2) := by decide +kernel
theorem dJ6_getChars_ba4f3_4 : decode cJ6_getChars_ba4f3 4 = .ok (.ifCond .ge 7, 3) := by decide +kernel
theorem dJ6_getChars_ba4f3_41 : decode cJ6_getChars_ba4f3 41 = .ok (.iload_n 3, 1) := by decide +kernel
theorem dJ6_getChars_ba4f3_42 : decode cJ6_getChars_ba4f3 42 = .ok (.istore_n 0, 1) := by decide +kernel
theorem dJ6_getChars_ba4f3_43 : decode cJ6_getChars_ba4f3 43 = .ok (.aload_n 2, 1) := by decide +kernel
theorem dJ6_getChars_ba4f3_44 : decode cJ6_getChars_ba4f3 44 = .ok (.iinc 5 (-1), 3) := by decide +kernel
theorem dJ6_getChars_ba4f3_47 : decode cJ6_getChars_ba4f3 47 = .ok (.iload 5, 2) := by decide +kernel
theorem dJ6_getChars_ba4f3_49 : decode cJ6_getChars_ba4f3 49 = .ok (.getstatic 83, 3) := by decide +kernel
theorem dJ6_getChars_ba4f3_52 : decode cJ6_getChars_ba4f3 52 = .ok (.iload 4, 2) := by decide +kernel
theorem dJ6_getChars_ba4f3_54 : decode cJ6_getChars_ba4f3 54 = .ok (.baload, 1) := by decide +kernel
theorem dJ6_getChars_ba4f3_55 : decode cJ6_getChars_ba4f3 55 = .ok (.bastore, 1) := by decide +kernel
theorem dJ6_getChars_ba4f3_56 : decode cJ6_getChars_ba4f3 56 = .ok (.aload_n 2, 1) := by decide +kernel
theorem dJ6_getChars_ba4f3_57 : decode cJ6_getChars_ba4f3 57 = .ok (.iinc 5 (-1), 3) := by decide +kernel
theorem dJ6_getChars_ba4f3_60 : decode cJ6_getChars_ba4f3 60 = .ok (.iload 5, 2) := by decide +kernel
theorem dJ6_getChars_ba4f3_62 : decode cJ6_getChars_ba4f3 62 = .ok (.getstatic 87, 3) := by decide +kernel
theorem dJ6_getChars_ba4f3_65 : decode cJ6_getChars_ba4f3 65 = .ok (.iload 4, 2) := by decide +kernel
theorem dJ6_getChars_ba4f3_67 : decode cJ6_getChars_ba4f3 67 = .ok (.baload, 1) := by decide +kernel
theorem dJ6_getChars_ba4f3_68 : decode cJ6_getChars_ba4f3 68 = .ok (.bastore, 1) := by decide +kernel
theorem dJ6_getChars_ba4f3_69 : decode cJ6_getChars_ba4f3 69 = .ok (.goto (-47), 3) := by decide +kernel
theorem dJ6_getChars_ba4f3_7 : decode cJ6_getChars_ba4f3 7 = .ok (.iconst 1, 1) := by decide +kernel
theorem dJ6_getChars_ba4f3_72 : decode cJ6_getChars_ba4f3 72 = .ok (.aload_n 2, 1) := by decide +kernel
theorem dJ6_getChars_ba4f3_73 : decode cJ6_getChars_ba4f3 73 = .ok (.iinc 5 (-1), 3) := by decide +kernel
theorem dJ6_getChars_ba4f3_76 : decode cJ6_getChars_ba4f3 76 = .ok (.iload 5, 2) := by decide +kernel
theorem dJ6_getChars_ba4f3_78 : decode cJ6_getChars_ba4f3 78 = .ok (.getstatic 83, 3) := by decide +kernel
theorem dJ6_getChars_ba4f3_8 : decode cJ6_getChars_ba4f3 8 = .ok (.goto 4, 3) := by decide +kernel
theorem dJ6_getChars_ba4f3_81 : decode cJ6_getChars_ba4f3 81 = .ok (.iload_n 0, 1) := by decide +kernel
theorem dJ6_getChars_ba4f3_82 : decode cJ6_getChars_ba4f3 82 = .ok (.ineg, 1) := by decide +kernel
theorem dJ6_getChars_ba4f3_83 : decode cJ6_getChars_ba4f3 83 = .ok (.baload, 1) := by decide +kernel
theorem dJ6_getChars_ba4f3_84 : decode cJ6_getChars_ba4f3 84 = .ok (.bastore, 1) := by decide +kernel
theorem dJ6_getChars_ba4f3_85 : decode cJ6_getChars_ba4f3 85 = .ok (.iload_n 0, 1) := by decide +kernel
theorem dJ6_getChars_ba4f3_86 : decode cJ6_getChars_ba4f3 86 = .ok (.bipush (-9), 2) := by decide +kernel
theorem dJ6_getChars_ba4f3_88 : decode cJ6_getChars_ba4f3 88 = .ok (.if_icmp .ge 16, 3) := by decide +kernel
theorem dJ6_getChars_ba4f3_91 : decode cJ6_getChars_ba4f3 91 = .ok (.aload_n 2, 1) := by decide +kernel
theorem dJ6_getChars_ba4f3_92 : decode cJ6_getChars_ba4f3 92 = .ok (.iinc 5 (-1), 3) := by decide +kernel
theorem dJ6_getChars_ba4f3_95 : decode cJ6_getChars_ba4f3 95 = .ok (.iload 5, 2) := by decide +kernel
theorem dJ6_getChars_ba4f3_97 : decode cJ6_getChars_ba4f3 97 = .ok (.getstatic 87, 3) := by decide +kernel
theorem dJ6_stringSize_0f7a4_0 : decode cJ6_stringSize_0f7a4 0 = .ok (.iconst 1, 1) := by decide +kernel
theorem dJ6_stringSize_0f7a4_1 : decode cJ6_stringSize_0f7a4 1 = .ok (.istore_n 1, 1) := by decide +kernel
theorem dJ6_stringSize_0f7a4_10 : decode cJ6_stringSize_0f7a4 10 = .ok (.istore_n 0, 1) := by decide +kernel
theorem dJ6_stringSize_0f7a4_11 : decode cJ6_stringSize_0f7a4 11 = .ok (.bipush (-10), 2) := by decide +kernel
theorem dJ6_stringSize_0f7a4_13 : decode cJ6_stringSize_0f7a4 13 = .ok (.istore_n 2, 1) := by decide +kernel
theorem dJ6_stringSize_0f7a4_14 : decode cJ6_stringSize_0f7a4 14 = .ok (.iconst 1, 1) := by decide +kernel
theorem dJ6_stringSize_0f7a4_15 : decode cJ6_stringSize_0f7a4 15 = .ok (.istore_n 3, 1) := by decide +kernel
theorem dJ6_stringSize_0f7a4_16 : decode cJ6_stringSize_0f7a4 16 = .ok (.iload_n 3, 1) := by decide +kernel
theorem dJ6_stringSize_0f7a4_17 : decode cJ6_stringSize_0f7a4 17 = .ok (.bipush 10, 2) := by decide +kernel
theorem dJ6_stringSize_0f7a4_19 : decode cJ6_stringSize_0f7a4 19 = .ok (.if_icmp .ge 23, 3) := by decide +kernel
theorem dJ6_stringSize_0f7a4_2 : decode cJ6_stringSize_0f7a4 2 = .ok (.iload_n 0, 1) := by decide +kernel
theorem dJ6_stringSize_0f7a4_22 : decode cJ6_stringSize_0f7a4 22 = .ok (.iload_n 0, 1) := by decide +kernel
theorem dJ6_stringSize_0f7a4_23 : decode cJ6_stringSize_0f7a4 23 = .ok (.iload_n 2, 1) := by decide +kernel
theorem dJ6_stringSize_0f7a4_24 : decode cJ6_stringSize_0f7a4 24 = .ok (.if_icmp .le 7, 3) := by decide +kernel
theorem dJ6_stringSize_0f7a4_27 : decode cJ6_stringSize_0f7a4 27 = .ok (.iload_n 3, 1) := by decide +kernel
theorem dJ6_stringSize_0f7a4_28 : decode cJ6_stringSize_0f7a4 28 = .ok (.iload_n 1, 1) := by decide +kernel
theorem dJ6_stringSize_0f7a4_29 : decode cJ6_stringSize_0f7a4 29 = .ok (.iadd, 1) := by decide +kernel
theorem dJ6_stringSize_0f7a4_3 : decode cJ6_stringSize_0f7a4 3 = .ok (.ifCond .lt 8, 3) := by decide +kernel
theorem dJ6_stringSize_0f7a4_30 : decode cJ6_stringSize_0f7a4 30 = .ok (.ireturn, 1) := by decide +kernel
theorem dJ6_stringSize_0f7a4_31 : decode cJ6_stringSize_0f7a4 31 = .ok (.bipush 10, 2) := by decide +kernel
theorem dJ6_stringSize_0f7a4_33 : decode cJ6_stringSize_0f7a4 33 = .ok (.iload_n 2, 1) := by decide +kernel
theorem dJ6_stringSize_0f7a4_34 : decode cJ6_stringSize_0f7a4 34 = .ok (.imul, 1) := by decide +kernel
theorem dJ6_stringSize_0f7a4_35 : decode cJ6_stringSize_0f7a4 35 = .ok (.istore_n 2, 1) := by decide +kernel
theorem dJ6_stringSize_0f7a4_36 : decode cJ6_stringSize_0f7a4 36 = .ok (.iinc 3 1, 3) := by decide +kernel
theorem dJ6_stringSize_0f7a4_39 : decode cJ6_stringSize_0f7a4 39 = .ok (.goto (-23), 3) := by decide +kernel
theorem dJ6_stringSize_0f7a4_42 : decode cJ6_stringSize_0f7a4 42 = .ok (.bipush 10, 2) := by decide +kernel
theorem dJ6_stringSize_0f7a4_44 : decode cJ6_stringSize_0f7a4 44 = .ok (.iload_n 1, 1) := by decide +kernel
theorem dJ6_stringSize_0f7a4_45 : decode cJ6_stringSize_0f7a4 45 = .ok (.iadd, 1) := by decide +kernel
theorem dJ6_stringSize_0f7a4_46 : decode cJ6_stringSize_0f7a4 46 = .ok (.ireturn, 1) := by decide +kernel
theorem dJ6_stringSize_0f7a4_6 : decode cJ6_stringSize_0f7a4 6 = .ok (.iconst 0, 1) := by decide +kernel
theorem dJ6_stringSize_0f7a4_7 : decode cJ6_stringSize_0f7a4 7 = .ok (.istore_n 1, 1) := by decide +kernel
theorem dJ6_stringSize_0f7a4_8 : decode cJ6_stringSize_0f7a4 8 = .ok (.iload_n 0, 1) := by decide +kernel
theorem dJ6_stringSize_0f7a4_9 : decode cJ6_stringSize_0f7a4 9 = .ok (.ineg, 1) := by decide +kernel
theorem dJ8_newLength_cabcc_0 : decode cJ8_newLength_cabcc 0 = .ok (.iload_n 0, 1) := by decide +kernel
theorem dJ8_newLength_cabcc_1 : decode cJ8_newLength_cabcc 1 = .ok (.iload_n 1, 1) := by decide +kernel
theorem dJ8_newLength_cabcc_10 : decode cJ8_newLength_cabcc 10 = .ok (.if_icmp .ge 11, 3) := by decide +kernel
theorem dJ8_newLength_cabcc_13 : decode cJ8_newLength_cabcc 13 = .ok (.iload_n 3, 1) := by decide +kernel
theorem dJ8_newLength_cabcc_14 : decode cJ8_newLength_cabcc 14 = .ok (.ldc 200, 2) := by decide +kernel
theorem dJ8_newLength_cabcc_16 : decode cJ8_newLength_cabcc 16 = .ok (.if_icmp .gt 5, 3) := by decide +kernel
theorem dJ8_newLength_cabcc_19 : decode cJ8_newLength_cabcc 19 = .ok (.iload_n 3, 1) := by decide +kernel
theorem dJ8_newLength_cabcc_2 : decode cJ8_newLength_cabcc 2 = .ok (.iload_n 2, 1) := by decide +kernel
theorem dJ8_newLength_cabcc_20 : decode cJ8_newLength_cabcc 20 = .ok (.ireturn, 1) := by decide +kernel
theorem dJ8_newLength_cabcc_3 : decode cJ8_newLength_cabcc 3 = .ok (.invokestatic 194, 3) := by decide +kernel
theorem dJ8_newLength_cabcc_6 : decode cJ8_newLength_cabcc 6 = .ok (.iadd, 1) := by decide +kernel
theorem dJ8_newLength_cabcc_7 : decode cJ8_newLength_cabcc 7 = .ok (.istore_n 3, 1) := by decide +kernel
theorem dJ8_newLength_cabcc_8 : decode cJ8_newLength_cabcc 8 = .ok (.iconst 0, 1) := by decide +kernel
theorem dJ8_newLength_cabcc_9 : decode cJ8_newLength_cabcc 9 = .ok (.iload_n 3, 1) := by decide +kernel
set_option maxHeartbeats 4000000 in
set_option maxRecDepth 100000 in
theorem c_J5_isLatin1_aae02 (l : Launch) (g : GG) (a0 : Nat → Nat) (v0_a : Nat) (v0_m : Nat) (v0_f : (Nat → Int32)) (v0_l : Int32) (v0_n : Int32) (hne : (m_J5_isLatin1_aae02 (v0_a, v0_m, v0_f, v0_l, v0_n)) ≠ none) : Ct l g yJ5_isLatin1_aae02 cJ5_isLatin1_aae02 1 (some .boolean) ({ frames := 0, cells := 0, slots := 0, locals := 0 } : Room) [.ref (a0 0)] (wSBX a0 g v0_a v0_m v0_f v0_l v0_n) (Qi g .boolean (m_J5_isLatin1_aae02 (v0_a, v0_m, v0_f, v0_l, v0_n)) (fun u => u) (fun u => wSBX a0 g v0_a v0_m v0_f v0_l v0_n)) 0 0 := by
  obtain ⟨out, hf⟩ := ne_ex hne
  have hf0 := hf
  refine Ct.of (own := RJ5) (by decide +kernel) rfl (Nat.le_of_ble_eq_true rfl) ?_
  intro p e s m below meth c hx hb hr hml hown hts hlocks hin hK A H locs hA hP hD hS hE ls hl
  have hl : lv_has ls 1 [(0, .ref (a0 0))] := hl
  unfold m_J5_isLatin1_aae02 at hf
  refine va_gets hx hb hE.2.1 hS hown (hts _ kw213) (fun _ h9 => h9) dJ5_isLatin1_aae02_0 ?_
  refine lv_if_eq (tgt := 17) hx hb dJ5_isLatin1_aae02_3 (by decide) (fun cb => ?_) (fun cb => ?_)
  · have hf := it_t cb hf
    cases hf
  have hf := it_f cb hf
  refine lv_aload_n hx hb dJ5_isLatin1_aae02_6 rfl (lv_at hl 0 rfl) ?_
  refine va_get (D := g.1) (ci := 0) (v := .int (0 : Int32)) (C := RJ4) (T := TJ4) (N := 4) hx hb hts layJ4 hown hK.1 hP 0 rfl rfl 1 (by decide) (hts _ kw222) (fun _ h9 => h9) rfl dJ5_isLatin1_aae02_7 ?_
  refine lv_if_ne (tgt := 17) hx hb dJ5_isLatin1_aae02_10 (by decide) (fun cb => ?_) (fun cb => ?_)
  · have hf := it_f cb hf
    cases hf
  have hf := it_t cb hf
  refine lv_iconst (v := 1) hx hb dJ5_isLatin1_aae02_13 (by decide) ?_
  refine lv_goto (tgt := 18) hx hb dJ5_isLatin1_aae02_14 (by decide) ?_
  exact retI (v := (1 : Int32)) (u := (1 : Int32)) (val := fun u => u) (W1 := fun u => wSBX a0 g v0_a v0_m v0_f v0_l v0_n) hx hb hr hlocks hS hP hD (hf0.trans hf.symm) rfl rfl dJ5_isLatin1_aae02_18
set_option maxHeartbeats 4000000 in
set_option maxRecDepth 100000 in
theorem c_J8_newLength_cabcc (l : Launch) (g : GG) (p0 : Int32) (p1 : Int32) (p2 : Int32) (hne : (m_J8_newLength_cabcc p0 p1 p2) ≠ none) : Ct l g yJ8_newLength_cabcc cJ8_newLength_cabcc 4 (some .int) ({ frames := 1, cells := 0, slots := 0, locals := 23 } : Room) [.int p0, .int p1, .int p2] (([] : va_W)) (Qi g .int (m_J8_newLength_cabcc p0 p1 p2) (fun u => u) (fun u => ([] : va_W))) 0 0 := by
  obtain ⟨out, hf⟩ := ne_ex hne
  have hf0 := hf
  refine Ct.of (own := RJ8) (by decide +kernel) rfl (Nat.le_of_ble_eq_true rfl) ?_
  intro p e s m below meth c hx hb hr hml hown hts hlocks hin hK A H locs hA hP hD hS hE ls hl
  have hl : lv_has ls 4 [(0, .int p0), (1, .int p1), (2, .int p2)] := hl
  unfold m_J8_newLength_cabcc at hf
  refine lv_iload_n hx hb dJ8_newLength_cabcc_0 rfl (lv_at hl 0 rfl) ?_
  refine lv_iload_n hx hb dJ8_newLength_cabcc_1 rfl (lv_at hl 1 rfl) ?_
  refine lv_iload_n hx hb dJ8_newLength_cabcc_2 rfl (lv_at hl 2 rfl) ?_
  refine va_mmax hx hb (hml.trans hl.1.symm) hown (hts _ kw987) (hts _ kw43) (hts _ kw4) (hts _ kw44) (Nat.le_of_ble_eq_true rfl) (Nat.le_of_ble_eq_true rfl) (Nat.zero_le _) (Nat.zero_le _) dJ8_newLength_cabcc_3 ?_
  obtain ⟨x1, ex1, hf⟩ := bnd hf
  refine nmI (Option.some.inj ex1) ?_
  refine lv_iadd hx hb dJ8_newLength_cabcc_6 ?_
  refine lv_istore_n (lv' := [(3, .int (p0 + x1)), (0, .int p0), (1, .int p1), (2, .int p2)]) hx hb dJ8_newLength_cabcc_7 rfl hl (by decide) rfl (fun ls hl => ?_)
  refine lv_iconst (v := 0) hx hb dJ8_newLength_cabcc_8 (by decide) ?_
  refine lv_iload_n hx hb dJ8_newLength_cabcc_9 rfl (lv_at hl 0 rfl) ?_
  obtain ⟨r2, er2, hf⟩ := bnd hf
  have K : match r2 with | .inl x3 => (∀ (H : Heap) (locs : List Loc) (ls : Array Slot), va_P g.1 vwCl (([] : va_W)) H → va_D A (([] : va_W)) → va_S A s.heap H locs → lv_has ls 4 [(0, .int p0), (1, .int p1)] → W p l e { frames := 1, cells := 0, slots := 0, locals := 23 } s m [.int p0, .int p1, .int p2].toArray below meth c H locs 0 0 (MQ below (Qi g .int (m_J8_newLength_cabcc p0 p1 p2) (fun u => u) (fun u => ([] : va_W)) A) [.int p0, .int p1, .int p2].toArray s 0 0 A) (F0 m 21 ls [])) | .inr v => (m_J8_newLength_cabcc p0 p1 p2) = some v := by
    rcases r2 with x3 | v
    · intro H locs ls hP hD hS hl
      cases hf
    · exact hf0.trans hf.symm
  have hf := er2
  refine lv_icmp_ge (tgt := 21) hx hb dJ8_newLength_cabcc_10 (by decide) (fun cb => ?_) (fun cb => ?_)
  · have hf := it_t cb hf
    have hq := Option.some.inj hf
    subst hq
    exact K _ _ _ hP hD hS (lv_sub hl [1, 2] rfl)
  have hf := it_f cb hf
  refine lv_iload_n hx hb dJ8_newLength_cabcc_13 rfl (lv_at hl 0 rfl) ?_
  refine lv_ldc hx hb hown (hts _ kw988) dJ8_newLength_cabcc_14 ?_
  refine lv_icmp_gt (tgt := 21) hx hb dJ8_newLength_cabcc_16 (by decide) (fun cb => ?_) (fun cb => ?_)
  · have hf := it_t cb hf
    have hq := Option.some.inj hf
    subst hq
    exact K _ _ _ hP hD hS (lv_sub hl [1, 2] rfl)
  have hf := it_f cb hf
  refine lv_iload_n hx hb dJ8_newLength_cabcc_19 rfl (lv_at hl 0 rfl) ?_
  have hq := Option.some.inj hf
  subst hq
  exact retI (v := (p0 + x1)) (u := (p0 + x1)) (val := fun u => u) (W1 := fun u => ([] : va_W)) hx hb hr hlocks hS hP hD K rfl rfl dJ8_newLength_cabcc_20
set_option maxHeartbeats 4000000 in
set_option maxRecDepth 100000 in
theorem c_J5_newCapacity_0f7a4 (l : Launch) (g : GG) (a0 : Nat → Nat) (v0_a : Nat) (v0_m : Nat) (v0_f : (Nat → Int32)) (v0_l : Int32) (v0_n : Int32) (p1 : Int32) (hne : (m_J5_newCapacity_0f7a4 (v0_a, v0_m, v0_f, v0_l, v0_n) p1) ≠ none) : Ct l g yJ5_newCapacity_0f7a4 cJ5_newCapacity_0f7a4 6 (some .int) ({ frames := 2, cells := 0, slots := 0, locals := 46 } : Room) [.ref (a0 0), .int p1] (wSBX a0 g v0_a v0_m v0_f v0_l v0_n) (Qi g .int (m_J5_newCapacity_0f7a4 (v0_a, v0_m, v0_f, v0_l, v0_n) p1) (fun u => u) (fun u => wSBX a0 g v0_a v0_m v0_f v0_l v0_n)) 0 0 := by
  obtain ⟨out, hf⟩ := ne_ex hne
  have hf0 := hf
  refine Ct.of (own := RJ5) (by decide +kernel) rfl (Nat.le_of_ble_eq_true rfl) ?_
  intro p e s m below meth c hx hb hr hml hown hts hlocks hin hK A H locs hA hP hD hS hE ls hl
  have hl : lv_has ls 6 [(0, .ref (a0 0)), (1, .int p1)] := hl
  unfold m_J5_newCapacity_0f7a4 at hf
  refine lv_aload_n hx hb dJ5_newCapacity_0f7a4_0 rfl (lv_at hl 0 rfl) ?_
  refine va_get (D := g.1) (ci := 0) (v := .ref v0_a) (C := RJ4) (T := TJ4) (N := 4) hx hb hts layJ4 hown hK.1 hP 0 rfl rfl 0 (by decide) (hts _ kw221) (fun _ h9 => h9) rfl dJ5_newCapacity_0f7a4_1 ?_
  refine va_alen (v := (nI v0_m)) hx hb hK.1 hP 1 2 rfl rfl rfl dJ5_newCapacity_0f7a4_4 ?_
  refine lv_istore_n (lv' := [(2, .int (nI v0_m)), (0, .ref (a0 0)), (1, .int p1)]) hx hb dJ5_newCapacity_0f7a4_5 rfl hl (by decide) rfl (fun ls hl => ?_)
  refine lv_iload_n hx hb dJ5_newCapacity_0f7a4_6 rfl (lv_at hl 2 rfl) ?_
  refine lv_aload_n hx hb dJ5_newCapacity_0f7a4_7 rfl (lv_at hl 1 rfl) ?_
  refine va_get (D := g.1) (ci := 0) (v := .int (0 : Int32)) (C := RJ4) (T := TJ4) (N := 4) hx hb hts layJ4 hown hK.1 hP 0 rfl rfl 1 (by decide) (hts _ kw222) (fun _ h9 => h9) rfl dJ5_newCapacity_0f7a4_8 ?_
  refine lv_ishl hx hb dJ5_newCapacity_0f7a4_11 ?_
  refine lv_istore_n (lv' := [(3, .int (p1 <<< ((0 : Int32) &&& 31))), (2, .int (nI v0_m)), (0, .ref (a0 0)), (1, .int p1)]) hx hb dJ5_newCapacity_0f7a4_12 rfl hl (by decide) rfl (fun ls hl => ?_)
  refine lv_iload_n hx hb dJ5_newCapacity_0f7a4_13 rfl (lv_at hl 0 rfl) ?_
  refine lv_iload_n hx hb dJ5_newCapacity_0f7a4_14 rfl (lv_at hl 1 rfl) ?_
  refine lv_isub hx hb dJ5_newCapacity_0f7a4_15 ?_
  refine lv_istore (lv' := [(4, .int ((p1 <<< ((0 : Int32) &&& 31)) - (nI v0_m))), (3, .int (p1 <<< ((0 : Int32) &&& 31))), (2, .int (nI v0_m)), (0, .ref (a0 0)), (1, .int p1)]) hx hb dJ5_newCapacity_0f7a4_16 hl (by decide) rfl (fun ls hl => ?_)
  refine lv_iload_n hx hb dJ5_newCapacity_0f7a4_18 rfl (lv_at hl 2 rfl) ?_
  refine lv_iload hx hb dJ5_newCapacity_0f7a4_19 (lv_at hl 0 rfl) ?_
  refine lv_iload_n hx hb dJ5_newCapacity_0f7a4_21 rfl (lv_at hl 2 rfl) ?_
  refine lv_iconst (v := 2) hx hb dJ5_newCapacity_0f7a4_22 (by decide) ?_
  refine lv_aload_n hx hb dJ5_newCapacity_0f7a4_23 rfl (lv_at hl 3 rfl) ?_
  refine va_get (D := g.1) (ci := 0) (v := .int (0 : Int32)) (C := RJ4) (T := TJ4) (N := 4) hx hb hts layJ4 hown hK.1 hP 0 rfl rfl 1 (by decide) (hts _ kw222) (fun _ h9 => h9) rfl dJ5_newCapacity_0f7a4_24 ?_
  refine lv_ishl hx hb dJ5_newCapacity_0f7a4_27 ?_
  refine lv_iadd hx hb dJ5_newCapacity_0f7a4_28 ?_
  refine cIp hP hD hS hA hE (fun hPc hDc hSc => rS (As := [.int (nI v0_m), .int ((p1 <<< ((0 : Int32) &&& 31)) - (nI v0_m)), .int ((nI v0_m) + ((2 : Int32) <<< ((0 : Int32) &&& 31)))]) (rest := []) hx hb hml hown hts hK (c_J8_newLength_cabcc l g (nI v0_m) ((p1 <<< ((0 : Int32) &&& 31)) - (nI v0_m)) ((nI v0_m) + ((2 : Int32) <<< ((0 : Int32) &&& 31))) (bnd_ne hf)) svS_J8_newLength_cabcc kw984 hPc hDc hSc rfl rfl hl.1 (Nat.le_of_ble_eq_true rfl) dJ5_newCapacity_0f7a4_29 ⟨Nat.le_of_ble_eq_true rfl, Nat.le_of_ble_eq_true rfl, rfl, rfl, Nat.le_of_ble_eq_true rfl, Nat.le_of_ble_eq_true rfl⟩) [] rfl rfl rfl (fun x1 H locs ex1 nx1 hP hS => ?_)
  have hf := bnd_of hf ex1
  refine lv_istore (lv' := [(5, .int x1), (4, .int ((p1 <<< ((0 : Int32) &&& 31)) - (nI v0_m))), (3, .int (p1 <<< ((0 : Int32) &&& 31))), (2, .int (nI v0_m)), (0, .ref (a0 0)), (1, .int p1)]) hx hb dJ5_newCapacity_0f7a4_32 hl (by decide) rfl (fun ls hl => ?_)
  refine lv_iload hx hb dJ5_newCapacity_0f7a4_34 (lv_at hl 0 rfl) ?_
  refine lv_ldc hx hb hown (hts _ kw992) dJ5_newCapacity_0f7a4_36 ?_
  refine lv_icmp_ne (tgt := 51) hx hb dJ5_newCapacity_0f7a4_38 (by decide) (fun cb => ?_) (fun cb => ?_)
  · have hf := it_f cb hf
    refine lv_iload hx hb dJ5_newCapacity_0f7a4_51 (lv_at hl 0 rfl) ?_
    refine lv_aload_n hx hb dJ5_newCapacity_0f7a4_53 rfl (lv_at hl 4 rfl) ?_
    refine va_get (D := g.1) (ci := 0) (v := .int (0 : Int32)) (C := RJ4) (T := TJ4) (N := 4) hx hb hts layJ4 hown hK.1 hP 0 rfl rfl 1 (by decide) (hts _ kw222) (fun _ h9 => h9) rfl dJ5_newCapacity_0f7a4_54 ?_
    refine lv_ishr hx hb dJ5_newCapacity_0f7a4_57 ?_
    exact retI (v := (x1 >>> ((0 : Int32) &&& 31))) (u := (x1 >>> ((0 : Int32) &&& 31))) (val := fun u => u) (W1 := fun u => wSBX a0 g v0_a v0_m v0_f v0_l v0_n) hx hb hr hlocks hS hP hD (hf0.trans hf.symm) rfl rfl dJ5_newCapacity_0f7a4_58
  have hf := it_t cb hf
  cases hf
set_option maxHeartbeats 4000000 in
set_option maxRecDepth 100000 in
theorem c_J6_stringSize_0f7a4 (l : Launch) (g : GG) (p0 : Int32) (hne : (m_J6_stringSize_0f7a4 p0) ≠ none) : Ct l g yJ6_stringSize_0f7a4 cJ6_stringSize_0f7a4 4 (some .int) ({ frames := 0, cells := 0, slots := 0, locals := 0 } : Room) [.int p0] (([] : va_W)) (Qi g .int (m_J6_stringSize_0f7a4 p0) (fun u => u) (fun u => ([] : va_W))) 0 0 := by
  obtain ⟨out, hf⟩ := ne_ex hne
  have hf0 := hf
  refine Ct.of (own := RJ6) (by decide +kernel) rfl (Nat.le_of_ble_eq_true rfl) ?_
  intro p e s m below meth c hx hb hr hml hown hts hlocks hin hK A H locs hA hP hD hS hE ls hl
  have hl : lv_has ls 4 [(0, .int p0)] := hl
  unfold m_J6_stringSize_0f7a4 at hf
  refine lv_iconst (v := 1) hx hb dJ6_stringSize_0f7a4_0 (by decide) ?_
  refine lv_istore_n (lv' := [(1, .int (1 : Int32)), (0, .int p0)]) hx hb dJ6_stringSize_0f7a4_1 rfl hl (by decide) rfl (fun ls hl => ?_)
  refine lv_iload_n hx hb dJ6_stringSize_0f7a4_2 rfl (lv_at hl 1 rfl) ?_
  obtain ⟨r1, er1, hf⟩ := bnd hf
  have K : ∀ (H : Heap) (locs : List Loc) (ls : Array Slot), va_P g.1 vwCl (([] : va_W)) H → va_D A (([] : va_W)) → va_S A s.heap H locs → lv_has ls 4 [(0, .int r1.1), (1, .int r1.2)] → W p l e { frames := 0, cells := 0, slots := 0, locals := 0 } s m [.int p0].toArray below meth c H locs 0 0 (MQ below (Qi g .int (m_J6_stringSize_0f7a4 p0) (fun u => u) (fun u => ([] : va_W)) A) [.int p0].toArray s 0 0 A) (F0 m 11 ls []) := by
    intro H locs ls hP hD hS hl
    refine lv_bipush (v := (-10)) hx hb dJ6_stringSize_0f7a4_11 (by decide) ?_
    refine lv_istore_n (lv' := [(2, .int (-10 : Int32)), (0, .int r1.1), (1, .int r1.2)]) hx hb dJ6_stringSize_0f7a4_13 rfl hl (by decide) rfl (fun ls hl => ?_)
    refine lv_iconst (v := 1) hx hb dJ6_stringSize_0f7a4_14 (by decide) ?_
    refine lv_istore_n (lv' := [(3, .int (1 : Int32)), (2, .int (-10 : Int32)), (0, .int r1.1), (1, .int r1.2)]) hx hb dJ6_stringSize_0f7a4_15 rfl hl (by decide) rfl (fun ls hl => ?_)
    obtain ⟨r4, er4, hf⟩ := bnd hf
    refine lp_W (P := fun z => ∀ (H : Heap) (locs : List Loc) (ls : Array Slot), va_P g.1 vwCl (([] : va_W)) H → va_D A (([] : va_W)) → va_S A s.heap H locs → lv_has ls 4 [(0, .int r1.1), (1, .int r1.2), (2, .int z.1), (3, .int z.2)] → W p l e { frames := 0, cells := 0, slots := 0, locals := 0 } s m [.int p0].toArray below meth c H locs 0 0 (MQ below (Qi g .int (m_J6_stringSize_0f7a4 p0) (fun u => u) (fun u => ([] : va_W)) A) [.int p0].toArray s 0 0 A) (F0 m 16 ls [])) (E := fun r4 => match r4 with | .inl x5 => (∀ (H : Heap) (locs : List Loc) (ls : Array Slot), va_P g.1 vwCl (([] : va_W)) H → va_D A (([] : va_W)) → va_S A s.heap H locs → lv_has ls 4 [(1, .int r1.2), (3, .int x5)] → W p l e { frames := 0, cells := 0, slots := 0, locals := 0 } s m [.int p0].toArray below meth c H locs 0 0 (MQ below (Qi g .int (m_J6_stringSize_0f7a4 p0) (fun u => u) (fun u => ([] : va_W)) A) [.int p0].toArray s 0 0 A) (F0 m 27 ls [])) | .inr x6 => (∀ (H : Heap) (locs : List Loc) (ls : Array Slot), va_P g.1 vwCl (([] : va_W)) H → va_D A (([] : va_W)) → va_S A s.heap H locs → lv_has ls 4 [(1, .int r1.2)] → W p l e { frames := 0, cells := 0, slots := 0, locals := 0 } s m [.int p0].toArray below meth c H locs 0 0 (MQ below (Qi g .int (m_J6_stringSize_0f7a4 p0) (fun u => u) (fun u => ([] : va_W)) A) [.int p0].toArray s 0 0 A) (F0 m 42 ls []))) ?_ fu _ r4 er4 ?_ _ _ _ hP hD hS (lv_sub hl [2, 3, 1, 0] rfl)
    · rintro ⟨x2, x3⟩ y hf hB hXt H locs ls hP hD hS hl
      have hP : va_P g.1 vwCl (([] : va_W)) H := hP
      have hD : va_D A (([] : va_W)) := hD
      have hl : lv_has ls 4 [(0, .int r1.1), (1, .int r1.2), (2, .int x2), (3, .int x3)] := hl
      have hf : m_J6_stringSize_0f7a4_l16 r1 x2 x3 = some y := hf
      unfold m_J6_stringSize_0f7a4_l16 at hf
      refine lv_iload_n hx hb dJ6_stringSize_0f7a4_16 rfl (lv_at hl 3 rfl) ?_
      refine lv_bipush (v := 10) hx hb dJ6_stringSize_0f7a4_17 (by decide) ?_
      refine lv_icmp_ge (tgt := 42) hx hb dJ6_stringSize_0f7a4_19 (by decide) (fun cb => ?_) (fun cb => ?_)
      · have hf := it_t cb hf
        exact hXt _ (Option.some.inj hf).symm _ _ _ hP hD hS (lv_sub hl [1] rfl)
      have hf := it_f cb hf
      refine lv_iload_n hx hb dJ6_stringSize_0f7a4_22 rfl (lv_at hl 0 rfl) ?_
      refine lv_iload_n hx hb dJ6_stringSize_0f7a4_23 rfl (lv_at hl 2 rfl) ?_
      refine lv_icmp_le (tgt := 31) hx hb dJ6_stringSize_0f7a4_24 (by decide) (fun cb => ?_) (fun cb => ?_)
      · have hf := it_t cb hf
        refine lv_bipush (v := 10) hx hb dJ6_stringSize_0f7a4_31 (by decide) ?_
        refine lv_iload_n hx hb dJ6_stringSize_0f7a4_33 rfl (lv_at hl 2 rfl) ?_
        refine lv_imul hx hb dJ6_stringSize_0f7a4_34 ?_
        refine lv_istore_n (lv' := [(2, .int ((10 : Int32) * x2)), (0, .int r1.1), (1, .int r1.2), (3, .int x3)]) hx hb dJ6_stringSize_0f7a4_35 rfl hl (by decide) rfl (fun ls hl => ?_)
        refine lv_iinc (v := (x3 + 1)) (lv' := [(3, .int (x3 + 1)), (2, .int ((10 : Int32) * x2)), (0, .int r1.1), (1, .int r1.2)]) hx hb dJ6_stringSize_0f7a4_36 hl (k := 3) rfl (by rfl) (by decide) rfl (fun ls hl => ?_)
        refine lv_goto (tgt := 16) hx hb dJ6_stringSize_0f7a4_39 (by decide) ?_
        exact hB _ (Option.some.inj hf).symm _ _ _ hP hD hS (lv_sub hl [2, 3, 1, 0] rfl)
      have hf := it_f cb hf
      exact hXt _ (Option.some.inj hf).symm _ _ _ hP hD hS (lv_sub hl [1, 3] rfl)
    rcases r4 with x5 | x6
    · intro H locs ls hP hD hS hl
      have hP : va_P g.1 vwCl (([] : va_W)) H := hP
      have hD : va_D A (([] : va_W)) := hD
      have hl : lv_has ls 4 [(1, .int r1.2), (3, .int x5)] := hl
      refine lv_iload_n hx hb dJ6_stringSize_0f7a4_27 rfl (lv_at hl 1 rfl) ?_
      refine lv_iload_n hx hb dJ6_stringSize_0f7a4_28 rfl (lv_at hl 0 rfl) ?_
      refine lv_iadd hx hb dJ6_stringSize_0f7a4_29 ?_
      exact retI (v := (x5 + r1.2)) (u := (x5 + r1.2)) (val := fun u => u) (W1 := fun u => ([] : va_W)) hx hb hr hlocks hS hP hD (hf0.trans hf.symm) rfl rfl dJ6_stringSize_0f7a4_30
    · intro H locs ls hP hD hS hl
      have hP : va_P g.1 vwCl (([] : va_W)) H := hP
      have hD : va_D A (([] : va_W)) := hD
      have hl : lv_has ls 4 [(1, .int r1.2)] := hl
      refine lv_bipush (v := 10) hx hb dJ6_stringSize_0f7a4_42 (by decide) ?_
      refine lv_iload_n hx hb dJ6_stringSize_0f7a4_44 rfl (lv_at hl 0 rfl) ?_
      refine lv_iadd hx hb dJ6_stringSize_0f7a4_45 ?_
      exact retI (v := ((10 : Int32) + r1.2)) (u := ((10 : Int32) + r1.2)) (val := fun u => u) (W1 := fun u => ([] : va_W)) hx hb hr hlocks hS hP hD (hf0.trans hf.symm) rfl rfl dJ6_stringSize_0f7a4_46
  have hf := er1
  refine lv_if_lt (tgt := 11) hx hb dJ6_stringSize_0f7a4_3 (by decide) (fun cb => ?_) (fun cb => ?_)
  · have hf := it_t cb hf
    have hq := Option.some.inj hf
    subst hq
    exact K _ _ _ hP hD hS (lv_sub hl [1, 0] rfl)
  have hf := it_f cb hf
  refine lv_iconst (v := 0) hx hb dJ6_stringSize_0f7a4_6 (by decide) ?_
  refine lv_istore_n (lv' := [(1, .int (0 : Int32)), (0, .int p0)]) hx hb dJ6_stringSize_0f7a4_7 rfl hl (by decide) rfl (fun ls hl => ?_)
  refine lv_iload_n hx hb dJ6_stringSize_0f7a4_8 rfl (lv_at hl 1 rfl) ?_
  refine lv_ineg hx hb dJ6_stringSize_0f7a4_9 ?_
  refine lv_istore_n (lv' := [(0, .int (-p0)), (1, .int (0 : Int32))]) hx hb dJ6_stringSize_0f7a4_10 rfl hl (by decide) rfl (fun ls hl => ?_)
  have hq := Option.some.inj hf
  subst hq
  exact K _ _ _ hP hD hS (lv_sub hl [0, 1] rfl)
set_option maxHeartbeats 4000000 in
set_option maxRecDepth 100000 in
theorem c_J6_getChars_ba4f3 (l : Launch) (g : GG) (a0 : Nat → Nat) (v0_m : Nat) (v0_f : (Nat → Int32)) (p0 : Int32) (p1 : Int32) (hne : (m_J6_getChars_ba4f3 (v0_m, v0_f) p0 p1) ≠ none) : Ct l g yJ6_getChars_ba4f3 cJ6_getChars_ba4f3 7 (some .int) ({ frames := 0, cells := 0, slots := 0, locals := 0 } : Room) [.int p0, .int p1, .ref (a0 0)] (wBAX a0 g v0_m v0_f) (Qi g .int (m_J6_getChars_ba4f3 (v0_m, v0_f) p0 p1) (fun u => u.1) (fun u => wBAX a0 g v0_m u.2)) 0 0 := by
  obtain ⟨out, hf⟩ := ne_ex hne
  have hf0 := hf
  refine Ct.of (own := RJ6) (by decide +kernel) rfl (Nat.le_of_ble_eq_true rfl) ?_
  intro p e s m below meth c hx hb hr hml hown hts hlocks hin hK A H locs hA hP hD hS hE ls hl
  have hl : lv_has ls 7 [(0, .int p0), (1, .int p1), (2, .ref (a0 0))] := hl
  obtain ⟨tO, hZO, hTO⟩ := hE.2.2.2.1
  obtain ⟨tT, hZT, hTT⟩ := hE.2.2.2.2
  unfold m_J6_getChars_ba4f3 at hf
  refine lv_iload_n hx hb dJ6_getChars_ba4f3_0 rfl (lv_at hl 1 rfl) ?_
  refine lv_istore (lv' := [(5, .int p1), (0, .int p0), (1, .int p1), (2, .ref (a0 0))]) hx hb dJ6_getChars_ba4f3_1 hl (by decide) rfl (fun ls hl => ?_)
  refine lv_iload_n hx hb dJ6_getChars_ba4f3_3 rfl (lv_at hl 1 rfl) ?_
  obtain ⟨r1, er1, hf⟩ := bnd hf
  have K : ∀ (H : Heap) (locs : List Loc) (ls : Array Slot), va_P g.1 vwCl (wBAX a0 g v0_m v0_f) H → va_D A (wBAX a0 g v0_m v0_f) → va_S A s.heap H locs → lv_has ls 7 [(0, .int p0), (2, .ref (a0 0)), (5, .int p1)] → W p l e { frames := 0, cells := 0, slots := 0, locals := 0 } s m [.int p0, .int p1, .ref (a0 0)].toArray below meth c H locs 0 0 (MQ below (Qi g .int (m_J6_getChars_ba4f3 (v0_m, v0_f) p0 p1) (fun u => u.1) (fun u => wBAX a0 g v0_m u.2) A) [.int p0, .int p1, .ref (a0 0)].toArray s 0 0 A) (F0 m 12 ls [.int r1]) := by
    intro H locs ls hP hD hS hl
    refine lv_istore (lv' := [(6, .int r1), (0, .int p0), (2, .ref (a0 0)), (5, .int p1)]) hx hb dJ6_getChars_ba4f3_12 hl (by decide) rfl (fun ls hl => ?_)
    refine lv_iload hx hb dJ6_getChars_ba4f3_14 (lv_at hl 0 rfl) ?_
    obtain ⟨r2, er2, hf⟩ := bnd hf
    have K : ∀ (H : Heap) (locs : List Loc) (ls : Array Slot), va_P g.1 vwCl (wBAX a0 g v0_m v0_f) H → va_D A (wBAX a0 g v0_m v0_f) → va_S A s.heap H locs → lv_has ls 7 [(0, .int r2), (2, .ref (a0 0)), (5, .int p1), (6, .int r1)] → W p l e { frames := 0, cells := 0, slots := 0, locals := 0 } s m [.int p0, .int p1, .ref (a0 0)].toArray below meth c H locs 0 0 (MQ below (Qi g .int (m_J6_getChars_ba4f3 (v0_m, v0_f) p0 p1) (fun u => u.1) (fun u => wBAX a0 g v0_m u.2) A) [.int p0, .int p1, .ref (a0 0)].toArray s 0 0 A) (F0 m 22 ls []) := by
      intro H locs ls hP hD hS hl
      obtain ⟨r6, er6, hf⟩ := bnd hf
      refine lp_W (P := fun z => ∀ (H : Heap) (locs : List Loc) (ls : Array Slot), va_P g.1 vwCl (wBAX a0 g v0_m z.2.2) H → va_D A (wBAX a0 g v0_m z.2.2) → va_S A s.heap H locs → lv_has ls 7 [(0, .int z.1), (2, .ref (a0 0)), (5, .int z.2.1), (6, .int r1)] → W p l e { frames := 0, cells := 0, slots := 0, locals := 0 } s m [.int p0, .int p1, .ref (a0 0)].toArray below meth c H locs 0 0 (MQ below (Qi g .int (m_J6_getChars_ba4f3 (v0_m, v0_f) p0 p1) (fun u => u.1) (fun u => wBAX a0 g v0_m u.2) A) [.int p0, .int p1, .ref (a0 0)].toArray s 0 0 A) (F0 m 22 ls [])) (E := fun r6 => ∀ (H : Heap) (locs : List Loc) (ls : Array Slot), va_P g.1 vwCl (wBAX a0 g v0_m r6.2.2) H → va_D A (wBAX a0 g v0_m r6.2.2) → va_S A s.heap H locs → lv_has ls 7 [(0, .int r6.1), (2, .ref (a0 0)), (5, .int r6.2.1), (6, .int r1)] → W p l e { frames := 0, cells := 0, slots := 0, locals := 0 } s m [.int p0, .int p1, .ref (a0 0)].toArray below meth c H locs 0 0 (MQ below (Qi g .int (m_J6_getChars_ba4f3 (v0_m, v0_f) p0 p1) (fun u => u.1) (fun u => wBAX a0 g v0_m u.2) A) [.int p0, .int p1, .ref (a0 0)].toArray s 0 0 A) (F0 m 72 ls [])) ?_ fu _ r6 er6 ?_ _ _ _ hP hD hS (lv_sub hl [0, 1, 2, 3] rfl)
      · rintro ⟨x3, x4, x5⟩ y hf hB hXt H locs ls hP hD hS hl
        have hP : va_P g.1 vwCl (wBAX a0 g v0_m x5) H := hP
        have hD : va_D A (wBAX a0 g v0_m x5) := hD
        have hl : lv_has ls 7 [(0, .int x3), (2, .ref (a0 0)), (5, .int x4), (6, .int r1)] := hl
        have hf : m_J6_getChars_ba4f3_l22 (v0_m, v0_f) x3 x4 x5 = some y := hf
        unfold m_J6_getChars_ba4f3_l22 at hf
        refine lv_iload_n hx hb dJ6_getChars_ba4f3_22 rfl (lv_at hl 0 rfl) ?_
        refine lv_bipush (v := (-100)) hx hb dJ6_getChars_ba4f3_23 (by decide) ?_
        refine lv_icmp_gt (tgt := 72) hx hb dJ6_getChars_ba4f3_25 (by decide) (fun cb => ?_) (fun cb => ?_)
        · have hf := it_t cb hf
          exact hXt _ (Option.some.inj hf).symm _ _ _ hP hD hS (lv_sub hl [0, 1, 2, 3] rfl)
        have hf := it_f cb hf
        refine lv_iload_n hx hb dJ6_getChars_ba4f3_28 rfl (lv_at hl 0 rfl) ?_
        refine lv_bipush (v := 100) hx hb dJ6_getChars_ba4f3_29 (by decide) ?_
        refine lv_idiv hx hb dJ6_getChars_ba4f3_31 (by decide) ?_
        refine lv_istore_n (lv' := [(3, .int (x3 / (100 : Int32))), (0, .int x3), (2, .ref (a0 0)), (5, .int x4), (6, .int r1)]) hx hb dJ6_getChars_ba4f3_32 rfl hl (by decide) rfl (fun ls hl => ?_)
        refine lv_iload_n hx hb dJ6_getChars_ba4f3_33 rfl (lv_at hl 0 rfl) ?_
        refine lv_bipush (v := 100) hx hb dJ6_getChars_ba4f3_34 (by decide) ?_
        refine lv_imul hx hb dJ6_getChars_ba4f3_36 ?_
        refine lv_iload_n hx hb dJ6_getChars_ba4f3_37 rfl (lv_at hl 1 rfl) ?_
        refine lv_isub hx hb dJ6_getChars_ba4f3_38 ?_
        refine lv_istore (lv' := [(4, .int (((x3 / (100 : Int32)) * (100 : Int32)) - x3)), (3, .int (x3 / (100 : Int32))), (0, .int x3), (2, .ref (a0 0)), (5, .int x4), (6, .int r1)]) hx hb dJ6_getChars_ba4f3_39 hl (by decide) rfl (fun ls hl => ?_)
        refine lv_iload_n hx hb dJ6_getChars_ba4f3_41 rfl (lv_at hl 1 rfl) ?_
        refine lv_istore_n (lv' := [(0, .int (x3 / (100 : Int32))), (4, .int (((x3 / (100 : Int32)) * (100 : Int32)) - x3)), (3, .int (x3 / (100 : Int32))), (2, .ref (a0 0)), (5, .int x4), (6, .int r1)]) hx hb dJ6_getChars_ba4f3_42 rfl hl (by decide) rfl (fun ls hl => ?_)
        refine lv_aload_n hx hb dJ6_getChars_ba4f3_43 rfl (lv_at hl 3 rfl) ?_
        refine lv_iinc (v := (x4 + (-1))) (lv' := [(5, .int (x4 + (-1))), (0, .int (x3 / (100 : Int32))), (4, .int (((x3 / (100 : Int32)) * (100 : Int32)) - x3)), (3, .int (x3 / (100 : Int32))), (2, .ref (a0 0)), (6, .int r1)]) hx hb dJ6_getChars_ba4f3_44 hl (k := 4) rfl (by rfl) (by decide) rfl (fun ls hl => ?_)
        refine lv_iload hx hb dJ6_getChars_ba4f3_47 (lv_at hl 0 rfl) ?_
        refine va_gets hx hb hZO hS hown (hts _ kw1037) (fun _ h9 => h9) dJ6_getChars_ba4f3_49 ?_
        refine lv_iload hx hb dJ6_getChars_ba4f3_52 (lv_at hl 2 rfl) ?_
        have hi := it_n hf
        have hf := it_t hi hf
        refine va_tb hx hb hTO hS (inb_in hi) (v := .int (dgO (((x3 / (100 : Int32)) * (100 : Int32)) - x3).toNatClampNeg)) rfl dJ6_getChars_ba4f3_54 ?_
        have hi := it_n hf
        have hf := it_t hi hf
        refine va_bast hx hb hK.1 hP hD hS 0 2 rfl rfl (inb_in hi) dJ6_getChars_ba4f3_55 (fun H locs hP hD hS => ?_)
        have hP : va_P g.1 vwCl (wBAX a0 g v0_m (upd x5 (x4 + (-1)).toNatClampNeg (vp_nar .byte (dgO (((x3 / (100 : Int32)) * (100 : Int32)) - x3).toNatClampNeg)))) H := hP
        have hD : va_D A (wBAX a0 g v0_m (upd x5 (x4 + (-1)).toNatClampNeg (vp_nar .byte (dgO (((x3 / (100 : Int32)) * (100 : Int32)) - x3).toNatClampNeg)))) := hD
        refine lv_aload_n hx hb dJ6_getChars_ba4f3_56 rfl (lv_at hl 4 rfl) ?_
        refine lv_iinc (v := ((x4 + (-1)) + (-1))) (lv' := [(5, .int ((x4 + (-1)) + (-1))), (0, .int (x3 / (100 : Int32))), (4, .int (((x3 / (100 : Int32)) * (100 : Int32)) - x3)), (3, .int (x3 / (100 : Int32))), (2, .ref (a0 0)), (6, .int r1)]) hx hb dJ6_getChars_ba4f3_57 hl (k := 0) rfl (by rfl) (by decide) rfl (fun ls hl => ?_)
        refine lv_iload hx hb dJ6_getChars_ba4f3_60 (lv_at hl 0 rfl) ?_
        refine va_gets hx hb hZT hS hown (hts _ kw1038) (fun _ h9 => h9) dJ6_getChars_ba4f3_62 ?_
        refine lv_iload hx hb dJ6_getChars_ba4f3_65 (lv_at hl 2 rfl) ?_
        have hi := it_n hf
        have hf := it_t hi hf
        refine va_tb hx hb hTT hS (inb_in hi) (v := .int (dgT (((x3 / (100 : Int32)) * (100 : Int32)) - x3).toNatClampNeg)) rfl dJ6_getChars_ba4f3_67 ?_
        have hi := it_n hf
        have hf := it_t hi hf
        refine va_bast hx hb hK.1 hP hD hS 0 2 rfl rfl (inb_in hi) dJ6_getChars_ba4f3_68 (fun H locs hP hD hS => ?_)
        have hP : va_P g.1 vwCl (wBAX a0 g v0_m (upd (upd x5 (x4 + (-1)).toNatClampNeg (vp_nar .byte (dgO (((x3 / (100 : Int32)) * (100 : Int32)) - x3).toNatClampNeg))) ((x4 + (-1)) + (-1)).toNatClampNeg (vp_nar .byte (dgT (((x3 / (100 : Int32)) * (100 : Int32)) - x3).toNatClampNeg)))) H := hP
        have hD : va_D A (wBAX a0 g v0_m (upd (upd x5 (x4 + (-1)).toNatClampNeg (vp_nar .byte (dgO (((x3 / (100 : Int32)) * (100 : Int32)) - x3).toNatClampNeg))) ((x4 + (-1)) + (-1)).toNatClampNeg (vp_nar .byte (dgT (((x3 / (100 : Int32)) * (100 : Int32)) - x3).toNatClampNeg)))) := hD
        refine lv_goto (tgt := 22) hx hb dJ6_getChars_ba4f3_69 (by decide) ?_
        exact hB _ (Option.some.inj hf).symm _ _ _ hP hD hS (lv_sub hl [1, 4, 0, 5] rfl)
      intro H locs ls hP hD hS hl
      have hP : va_P g.1 vwCl (wBAX a0 g v0_m r6.2.2) H := hP
      have hD : va_D A (wBAX a0 g v0_m r6.2.2) := hD
      have hl : lv_has ls 7 [(0, .int r6.1), (2, .ref (a0 0)), (5, .int r6.2.1), (6, .int r1)] := hl
      refine lv_aload_n hx hb dJ6_getChars_ba4f3_72 rfl (lv_at hl 1 rfl) ?_
      refine lv_iinc (v := (r6.2.1 + (-1))) (lv' := [(5, .int (r6.2.1 + (-1))), (0, .int r6.1), (2, .ref (a0 0)), (6, .int r1)]) hx hb dJ6_getChars_ba4f3_73 hl (k := 2) rfl (by rfl) (by decide) rfl (fun ls hl => ?_)
      refine lv_iload hx hb dJ6_getChars_ba4f3_76 (lv_at hl 0 rfl) ?_
      refine va_gets hx hb hZO hS hown (hts _ kw1037) (fun _ h9 => h9) dJ6_getChars_ba4f3_78 ?_
      refine lv_iload_n hx hb dJ6_getChars_ba4f3_81 rfl (lv_at hl 1 rfl) ?_
      refine lv_ineg hx hb dJ6_getChars_ba4f3_82 ?_
      have hi := it_n hf
      have hf := it_t hi hf
      refine va_tb hx hb hTO hS (inb_in hi) (v := .int (dgO (-r6.1).toNatClampNeg)) rfl dJ6_getChars_ba4f3_83 ?_
      have hi := it_n hf
      have hf := it_t hi hf
      refine va_bast hx hb hK.1 hP hD hS 0 2 rfl rfl (inb_in hi) dJ6_getChars_ba4f3_84 (fun H locs hP hD hS => ?_)
      have hP : va_P g.1 vwCl (wBAX a0 g v0_m (upd r6.2.2 (r6.2.1 + (-1)).toNatClampNeg (vp_nar .byte (dgO (-r6.1).toNatClampNeg)))) H := hP
      have hD : va_D A (wBAX a0 g v0_m (upd r6.2.2 (r6.2.1 + (-1)).toNatClampNeg (vp_nar .byte (dgO (-r6.1).toNatClampNeg)))) := hD
      refine lv_iload_n hx hb dJ6_getChars_ba4f3_85 rfl (lv_at hl 1 rfl) ?_
      refine lv_bipush (v := (-9)) hx hb dJ6_getChars_ba4f3_86 (by decide) ?_
      obtain ⟨r7, er7, hf⟩ := bnd hf
      have K : ∀ (H : Heap) (locs : List Loc) (ls : Array Slot), va_P g.1 vwCl (wBAX a0 g v0_m r7.2) H → va_D A (wBAX a0 g v0_m r7.2) → va_S A s.heap H locs → lv_has ls 7 [(2, .ref (a0 0)), (5, .int r7.1), (6, .int r1)] → W p l e { frames := 0, cells := 0, slots := 0, locals := 0 } s m [.int p0, .int p1, .ref (a0 0)].toArray below meth c H locs 0 0 (MQ below (Qi g .int (m_J6_getChars_ba4f3 (v0_m, v0_f) p0 p1) (fun u => u.1) (fun u => wBAX a0 g v0_m u.2) A) [.int p0, .int p1, .ref (a0 0)].toArray s 0 0 A) (F0 m 104 ls []) := by
        intro H locs ls hP hD hS hl
        refine lv_iload hx hb dJ6_getChars_ba4f3_104 (lv_at hl 2 rfl) ?_
        refine lv_if_eq (tgt := 118) hx hb dJ6_getChars_ba4f3_106 (by decide) (fun cb => ?_) (fun cb => ?_)
        · have hf := it_t cb hf
          refine lv_iload hx hb dJ6_getChars_ba4f3_118 (lv_at hl 1 rfl) ?_
          exact retI (v := r7.1) (u := (r7.1, r7.2)) (val := fun u => u.1) (W1 := fun u => wBAX a0 g v0_m u.2) hx hb hr hlocks hS hP hD (hf0.trans hf.symm) rfl rfl dJ6_getChars_ba4f3_120
        have hf := it_f cb hf
        refine lv_aload_n hx hb dJ6_getChars_ba4f3_109 rfl (lv_at hl 0 rfl) ?_
        refine lv_iinc (v := (r7.1 + (-1))) (lv' := [(5, .int (r7.1 + (-1))), (2, .ref (a0 0)), (6, .int r1)]) hx hb dJ6_getChars_ba4f3_110 hl (k := 1) rfl (by rfl) (by decide) rfl (fun ls hl => ?_)
        refine lv_iload hx hb dJ6_getChars_ba4f3_113 (lv_at hl 0 rfl) ?_
        refine lv_bipush (v := 45) hx hb dJ6_getChars_ba4f3_115 (by decide) ?_
        have hi := it_n hf
        have hf := it_t hi hf
        refine va_bast hx hb hK.1 hP hD hS 0 2 rfl rfl (inb_in hi) dJ6_getChars_ba4f3_117 (fun H locs hP hD hS => ?_)
        have hP : va_P g.1 vwCl (wBAX a0 g v0_m (upd r7.2 (r7.1 + (-1)).toNatClampNeg (vp_nar .byte (45 : Int32)))) H := hP
        have hD : va_D A (wBAX a0 g v0_m (upd r7.2 (r7.1 + (-1)).toNatClampNeg (vp_nar .byte (45 : Int32)))) := hD
        refine lv_iload hx hb dJ6_getChars_ba4f3_118 (lv_at hl 0 rfl) ?_
        exact retI (v := (r7.1 + (-1))) (u := ((r7.1 + (-1)), (upd r7.2 (r7.1 + (-1)).toNatClampNeg (vp_nar .byte (45 : Int32))))) (val := fun u => u.1) (W1 := fun u => wBAX a0 g v0_m u.2) hx hb hr hlocks hS hP hD (hf0.trans hf.symm) rfl rfl dJ6_getChars_ba4f3_120
      have hf := er7
      refine lv_icmp_ge (tgt := 104) hx hb dJ6_getChars_ba4f3_88 (by decide) (fun cb => ?_) (fun cb => ?_)
      · have hf := it_t cb hf
        have hq := Option.some.inj hf
        subst hq
        exact K _ _ _ hP hD hS (lv_sub hl [2, 0, 3] rfl)
      have hf := it_f cb hf
      refine lv_aload_n hx hb dJ6_getChars_ba4f3_91 rfl (lv_at hl 2 rfl) ?_
      refine lv_iinc (v := ((r6.2.1 + (-1)) + (-1))) (lv' := [(5, .int ((r6.2.1 + (-1)) + (-1))), (0, .int r6.1), (2, .ref (a0 0)), (6, .int r1)]) hx hb dJ6_getChars_ba4f3_92 hl (k := 0) rfl (by rfl) (by decide) rfl (fun ls hl => ?_)
      refine lv_iload hx hb dJ6_getChars_ba4f3_95 (lv_at hl 0 rfl) ?_
      refine va_gets hx hb hZT hS hown (hts _ kw1038) (fun _ h9 => h9) dJ6_getChars_ba4f3_97 ?_
      refine lv_iload_n hx hb dJ6_getChars_ba4f3_100 rfl (lv_at hl 1 rfl) ?_
      refine lv_ineg hx hb dJ6_getChars_ba4f3_101 ?_
      have hi := it_n hf
      have hf := it_t hi hf
      refine va_tb hx hb hTT hS (inb_in hi) (v := .int (dgT (-r6.1).toNatClampNeg)) rfl dJ6_getChars_ba4f3_102 ?_
      have hi := it_n hf
      have hf := it_t hi hf
      refine va_bast hx hb hK.1 hP hD hS 0 2 rfl rfl (inb_in hi) dJ6_getChars_ba4f3_103 (fun H locs hP hD hS => ?_)
      have hP : va_P g.1 vwCl (wBAX a0 g v0_m (upd (upd r6.2.2 (r6.2.1 + (-1)).toNatClampNeg (vp_nar .byte (dgO (-r6.1).toNatClampNeg))) ((r6.2.1 + (-1)) + (-1)).toNatClampNeg (vp_nar .byte (dgT (-r6.1).toNatClampNeg)))) H := hP
      have hD : va_D A (wBAX a0 g v0_m (upd (upd r6.2.2 (r6.2.1 + (-1)).toNatClampNeg (vp_nar .byte (dgO (-r6.1).toNatClampNeg))) ((r6.2.1 + (-1)) + (-1)).toNatClampNeg (vp_nar .byte (dgT (-r6.1).toNatClampNeg)))) := hD
      have hq := Option.some.inj hf
      subst hq
      exact K _ _ _ hP hD hS (lv_sub hl [2, 0, 3] rfl)
    have hf := er2
    refine lv_if_ne (tgt := 22) hx hb dJ6_getChars_ba4f3_16 (by decide) (fun cb => ?_) (fun cb => ?_)
    · have hf := it_f cb hf
      have hq := Option.some.inj hf
      subst hq
      exact K _ _ _ hP hD hS (lv_sub hl [1, 2, 3, 0] rfl)
    have hf := it_t cb hf
    refine lv_iload_n hx hb dJ6_getChars_ba4f3_19 rfl (lv_at hl 1 rfl) ?_
    refine lv_ineg hx hb dJ6_getChars_ba4f3_20 ?_
    refine lv_istore_n (lv' := [(0, .int (-p0)), (6, .int r1), (2, .ref (a0 0)), (5, .int p1)]) hx hb dJ6_getChars_ba4f3_21 rfl hl (by decide) rfl (fun ls hl => ?_)
    have hq := Option.some.inj hf
    subst hq
    exact K _ _ _ hP hD hS (lv_sub hl [0, 2, 3, 1] rfl)
  have hf := er1
  refine lv_if_ge (tgt := 11) hx hb dJ6_getChars_ba4f3_4 (by decide) (fun cb => ?_) (fun cb => ?_)
  · have hf := it_t cb hf
    refine lv_iconst (v := 0) hx hb dJ6_getChars_ba4f3_11 (by decide) ?_
    have hq := Option.some.inj hf
    subst hq
    exact K _ _ _ hP hD hS (lv_sub hl [1, 3, 0] rfl)
  have hf := it_f cb hf
  refine lv_iconst (v := 1) hx hb dJ6_getChars_ba4f3_7 (by decide) ?_
  refine lv_goto (tgt := 12) hx hb dJ6_getChars_ba4f3_8 (by decide) ?_
  have hq := Option.some.inj hf
  subst hq
  exact K _ _ _ hP hD hS (lv_sub hl [1, 3, 0] rfl)
set_option maxHeartbeats 4000000 in
set_option maxRecDepth 100000 in
theorem c_J1_canEncode_fc78d (l : Launch) (g : GG) (p0 : Int32) (hne : (m_J1_canEncode_fc78d p0) ≠ none) : Ct l g yJ1_canEncode_fc78d cJ1_canEncode_fc78d 1 (some .boolean) ({ frames := 0, cells := 0, slots := 0, locals := 0 } : Room) [.int p0] (([] : va_W)) (Qi g .boolean (m_J1_canEncode_fc78d p0) (fun u => u) (fun u => ([] : va_W))) 0 0 := by
  obtain ⟨out, hf⟩ := ne_ex hne
  have hf0 := hf
  refine Ct.of (own := RJ1) (by decide +kernel) rfl (Nat.le_of_ble_eq_true rfl) ?_
  intro p e s m below meth c hx hb hr hml hown hts hlocks hin hK A H locs hA hP hD hS hE ls hl
  have hl : lv_has ls 1 [(0, .int p0)] := hl
  unfold m_J1_canEncode_fc78d at hf
  refine lv_iload_n hx hb dJ1_canEncode_fc78d_0 rfl (lv_at hl 0 rfl) ?_
  refine lv_sipush (v := 255) hx hb dJ1_canEncode_fc78d_1 (by decide) ?_
  refine lv_icmp_gt (tgt := 11) hx hb dJ1_canEncode_fc78d_4 (by decide) (fun cb => ?_) (fun cb => ?_)
  · have hf := it_t cb hf
    refine lv_iconst (v := 0) hx hb dJ1_canEncode_fc78d_11 (by decide) ?_
    exact retI (v := (0 : Int32)) (u := (0 : Int32)) (val := fun u => u) (W1 := fun u => ([] : va_W)) hx hb hr hlocks hS hP hD (hf0.trans hf.symm) rfl rfl dJ1_canEncode_fc78d_12
  have hf := it_f cb hf
  refine lv_iconst (v := 1) hx hb dJ1_canEncode_fc78d_7 (by decide) ?_
  refine lv_goto (tgt := 12) hx hb dJ1_canEncode_fc78d_8 (by decide) ?_
  exact retI (v := (1 : Int32)) (u := (1 : Int32)) (val := fun u => u) (W1 := fun u => ([] : va_W)) hx hb hr hlocks hS hP hD (hf0.trans hf.symm) rfl rfl dJ1_canEncode_fc78d_12
set_option maxHeartbeats 4000000 in
set_option maxRecDepth 100000 in
theorem c_J5_length_8abf5 (l : Launch) (g : GG) (a0 : Nat → Nat) (v0_a : Nat) (v0_m : Nat) (v0_f : (Nat → Int32)) (v0_l : Int32) (v0_n : Int32) (hne : (m_J5_length_8abf5 (v0_a, v0_m, v0_f, v0_l, v0_n)) ≠ none) : Ct l g yJ5_length_8abf5 cJ5_length_8abf5 1 (some .int) ({ frames := 0, cells := 0, slots := 0, locals := 0 } : Room) [.ref (a0 0)] (wSBX a0 g v0_a v0_m v0_f v0_l v0_n) (Qi g .int (m_J5_length_8abf5 (v0_a, v0_m, v0_f, v0_l, v0_n)) (fun u => u) (fun u => wSBX a0 g v0_a v0_m v0_f v0_l v0_n)) 0 0 := by
  obtain ⟨out, hf⟩ := ne_ex hne
  have hf0 := hf
  refine Ct.of (own := RJ5) (by decide +kernel) rfl (Nat.le_of_ble_eq_true rfl) ?_
  intro p e s m below meth c hx hb hr hml hown hts hlocks hin hK A H locs hA hP hD hS hE ls hl
  have hl : lv_has ls 1 [(0, .ref (a0 0))] := hl
  unfold m_J5_length_8abf5 at hf
  refine lv_aload_n hx hb dJ5_length_8abf5_0 rfl (lv_at hl 0 rfl) ?_
  refine va_get (D := g.1) (ci := 0) (v := .int v0_n) (C := RJ4) (T := TJ4) (N := 4) hx hb hts layJ4 hown hK.1 hP 0 rfl rfl 3 (by decide) (hts _ kw224) (fun _ h9 => h9) rfl dJ5_length_8abf5_1 ?_
  exact retI (v := v0_n) (u := v0_n) (val := fun u => u) (W1 := fun u => wSBX a0 g v0_a v0_m v0_f v0_l v0_n) hx hb hr hlocks hS hP hD (hf0.trans hf.symm) rfl rfl dJ5_length_8abf5_4
set_option maxHeartbeats 4000000 in
set_option maxRecDepth 100000 in
theorem c_J4_length_8abf5 (l : Launch) (g : GG) (a0 : Nat → Nat) (v0_a : Nat) (v0_m : Nat) (v0_f : (Nat → Int32)) (v0_l : Int32) (v0_n : Int32) (hne : (m_J4_length_8abf5 (v0_a, v0_m, v0_f, v0_l, v0_n)) ≠ none) : Ct l g yJ4_length_8abf5 cJ4_length_8abf5 1 (some .int) ({ frames := 1, cells := 0, slots := 0, locals := 20 } : Room) [.ref (a0 0)] (wSBX a0 g v0_a v0_m v0_f v0_l v0_n) (Qi g .int (m_J4_length_8abf5 (v0_a, v0_m, v0_f, v0_l, v0_n)) (fun u => u) (fun u => wSBX a0 g v0_a v0_m v0_f v0_l v0_n)) 0 0 := by
  obtain ⟨out, hf⟩ := ne_ex hne
  have hf0 := hf
  refine Ct.of (own := RJ4) (by decide +kernel) rfl (Nat.le_of_ble_eq_true rfl) ?_
  intro p e s m below meth c hx hb hr hml hown hts hlocks hin hK A H locs hA hP hD hS hE ls hl
  have hl : lv_has ls 1 [(0, .ref (a0 0))] := hl
  unfold m_J4_length_8abf5 at hf
  refine lv_aload_n hx hb dJ4_length_8abf5_0 rfl (lv_at hl 0 rfl) ?_
  refine cIp hP hD hS hA hE (fun hPc hDc hSc => rSU (As := []) (rest := []) hx hb hml hown hts hK (c_J5_length_8abf5 l g a0 v0_a v0_m v0_f v0_l v0_n (bnd_ne hf)) svU_J5_length_8abf5 kw1127 rfl rfl hPc hDc hSc rfl rfl hl.1 (Nat.le_of_ble_eq_true rfl) dJ4_length_8abf5_1 ⟨Nat.le_of_ble_eq_true rfl, Nat.le_of_ble_eq_true rfl, rfl, rfl, Nat.le_of_ble_eq_true rfl, Nat.le_of_ble_eq_true rfl⟩) [(0, 2)] rfl rfl rfl (fun x1 H locs ex1 nx1 hP hS => ?_)
  have hf := bnd_of hf ex1
  exact retI (v := x1) (u := x1) (val := fun u => u) (W1 := fun u => wSBX a0 g v0_a v0_m v0_f v0_l v0_n) hx hb hr hlocks hS hP hD (hf0.trans hf.symm) rfl rfl dJ4_length_8abf5_4
set_option maxHeartbeats 4000000 in
set_option maxRecDepth 100000 in
theorem c_J5_charAt_5068e (l : Launch) (g : GG) (a0 : Nat → Nat) (v0_a : Nat) (v0_m : Nat) (v0_f : (Nat → Int32)) (v0_l : Int32) (v0_n : Int32) (p1 : Int32) (hne : (m_J5_charAt_5068e (v0_a, v0_m, v0_f, v0_l, v0_n) p1) ≠ none) : Ct l g yJ5_charAt_5068e cJ5_charAt_5068e 5 (some .char) ({ frames := 2, cells := 0, slots := 0, locals := 43 } : Room) [.ref (a0 0), .int p1] (wSBX a0 g v0_a v0_m v0_f v0_l v0_n) (Qi g .char (m_J5_charAt_5068e (v0_a, v0_m, v0_f, v0_l, v0_n) p1) (fun u => u) (fun u => wSBX a0 g v0_a v0_m v0_f v0_l v0_n)) 0 0 := by
  obtain ⟨out, hf⟩ := ne_ex hne
  have hf0 := hf
  refine Ct.of (own := RJ5) (by decide +kernel) rfl (Nat.le_of_ble_eq_true rfl) ?_
  intro p e s m below meth c hx hb hr hml hown hts hlocks hin hK A H locs hA hP hD hS hE ls hl
  have hl : lv_has ls 5 [(0, .ref (a0 0)), (1, .int p1)] := hl
  unfold m_J5_charAt_5068e at hf
  refine lv_aload_n hx hb dJ5_charAt_5068e_0 rfl (lv_at hl 0 rfl) ?_
  refine va_get (D := g.1) (ci := 0) (v := .int (0 : Int32)) (C := RJ4) (T := TJ4) (N := 4) hx hb hts layJ4 hown hK.1 hP 0 rfl rfl 1 (by decide) (hts _ kw222) (fun _ h9 => h9) rfl dJ5_charAt_5068e_1 ?_
  refine lv_istore_n (lv' := [(2, .int (0 : Int32)), (0, .ref (a0 0)), (1, .int p1)]) hx hb dJ5_charAt_5068e_4 rfl hl (by decide) rfl (fun ls hl => ?_)
  refine lv_aload_n hx hb dJ5_charAt_5068e_5 rfl (lv_at hl 1 rfl) ?_
  refine va_get (D := g.1) (ci := 0) (v := .ref v0_a) (C := RJ4) (T := TJ4) (N := 4) hx hb hts layJ4 hown hK.1 hP 0 rfl rfl 0 (by decide) (hts _ kw221) (fun _ h9 => h9) rfl dJ5_charAt_5068e_6 ?_
  refine lv_astore_n (lv' := [(3, .ref v0_a), (2, .int (0 : Int32)), (0, .ref (a0 0)), (1, .int p1)]) hx hb dJ5_charAt_5068e_9 rfl hl (by decide) rfl (fun ls hl => ?_)
  refine lv_aload_n hx hb dJ5_charAt_5068e_10 rfl (lv_at hl 2 rfl) ?_
  refine va_get (D := g.1) (ci := 0) (v := .int v0_n) (C := RJ4) (T := TJ4) (N := 4) hx hb hts layJ4 hown hK.1 hP 0 rfl rfl 3 (by decide) (hts _ kw224) (fun _ h9 => h9) rfl dJ5_charAt_5068e_11 ?_
  refine lv_aload_n hx hb dJ5_charAt_5068e_14 rfl (lv_at hl 0 rfl) ?_
  refine va_alen (v := (nI v0_m)) hx hb hK.1 hP 1 2 rfl rfl rfl dJ5_charAt_5068e_15 ?_
  refine lv_iload_n hx hb dJ5_charAt_5068e_16 rfl (lv_at hl 1 rfl) ?_
  refine lv_ishr hx hb dJ5_charAt_5068e_17 ?_
  refine va_mmin hx hb (hml.trans hl.1.symm) hown (hts _ kw1137) (hts _ kw567) (hts _ kw4) (hts _ kw568) (Nat.le_of_ble_eq_true rfl) (Nat.le_of_ble_eq_true rfl) (Nat.zero_le _) (Nat.zero_le _) dJ5_charAt_5068e_18 ?_
  obtain ⟨x1, ex1, hf⟩ := bnd hf
  refine nmI (Option.some.inj ex1) ?_
  refine lv_istore (lv' := [(4, .int x1), (3, .ref v0_a), (2, .int (0 : Int32)), (0, .ref (a0 0)), (1, .int p1)]) hx hb dJ5_charAt_5068e_21 hl (by decide) rfl (fun ls hl => ?_)
  refine lv_iload_n hx hb dJ5_charAt_5068e_23 rfl (lv_at hl 4 rfl) ?_
  refine lv_iload hx hb dJ5_charAt_5068e_24 (lv_at hl 0 rfl) ?_
  refine cV hP hD hS hA hE (fun hPc hDc hSc => rS (As := [.int p1, .int x1]) (rest := []) hx hb hml hown hts hK (c_J0_checkIndex_df160 l g p1 x1 (bnd_ne hf)) svS_J0_checkIndex_df160 kw1138 hPc hDc hSc rfl rfl hl.1 (Nat.le_of_ble_eq_true rfl) dJ5_charAt_5068e_26 ⟨Nat.le_of_ble_eq_true rfl, Nat.le_of_ble_eq_true rfl, rfl, rfl, Nat.le_of_ble_eq_true rfl, Nat.le_of_ble_eq_true rfl⟩) [] rfl rfl rfl (fun _ => rfl) (fun x2 H locs ex2 hP hD hS => ?_)
  have hf := bnd_of hf ex2
  have hP : va_P g.1 vwCl (wSBX a0 g v0_a v0_m v0_f v0_l v0_n) H := hP
  have hD : va_D A (wSBX a0 g v0_a v0_m v0_f v0_l v0_n) := hD
  refine lv_iload_n hx hb dJ5_charAt_5068e_29 rfl (lv_at hl 2 rfl) ?_
  refine lv_if_ne (tgt := 42) hx hb dJ5_charAt_5068e_30 (by decide) (fun cb => ?_) (fun cb => ?_)
  · have hf := it_f cb hf
    cases hf
  have hf := it_t cb hf
  refine lv_aload_n hx hb dJ5_charAt_5068e_33 rfl (lv_at hl 1 rfl) ?_
  refine lv_iload_n hx hb dJ5_charAt_5068e_34 rfl (lv_at hl 4 rfl) ?_
  have hi := it_n hf
  have hf := it_t hi hf
  refine va_bald hx hb hK.1 hP 1 2 rfl rfl (inb_in hi) dJ5_charAt_5068e_35 ?_
  refine lv_sipush (v := 255) hx hb dJ5_charAt_5068e_36 (by decide) ?_
  refine lv_iand hx hb dJ5_charAt_5068e_39 ?_
  refine lv_i2c (v := (((v0_f p1.toNatClampNeg) &&& (255 : Int32)).toUInt32 % 65536).toInt32) hx hb dJ5_charAt_5068e_40 rfl ?_
  exact retI (v := (((v0_f p1.toNatClampNeg) &&& (255 : Int32)).toUInt32 % 65536).toInt32) (u := (((v0_f p1.toNatClampNeg) &&& (255 : Int32)).toUInt32 % 65536).toInt32) (val := fun u => u) (W1 := fun u => wSBX a0 g v0_a v0_m v0_f v0_l v0_n) hx hb hr hlocks hS hP hD (hf0.trans hf.symm) rfl (pk_nc _) dJ5_charAt_5068e_41
set_option maxHeartbeats 4000000 in
set_option maxRecDepth 100000 in
theorem c_J4_charAt_5068e (l : Launch) (g : GG) (a0 : Nat → Nat) (v0_a : Nat) (v0_m : Nat) (v0_f : (Nat → Int32)) (v0_l : Int32) (v0_n : Int32) (p1 : Int32) (hne : (m_J4_charAt_5068e (v0_a, v0_m, v0_f, v0_l, v0_n) p1) ≠ none) : Ct l g yJ4_charAt_5068e cJ4_charAt_5068e 2 (some .char) ({ frames := 3, cells := 0, slots := 0, locals := 67 } : Room) [.ref (a0 0), .int p1] (wSBX a0 g v0_a v0_m v0_f v0_l v0_n) (Qi g .char (m_J4_charAt_5068e (v0_a, v0_m, v0_f, v0_l, v0_n) p1) (fun u => u) (fun u => wSBX a0 g v0_a v0_m v0_f v0_l v0_n)) 0 0 := by
  obtain ⟨out, hf⟩ := ne_ex hne
  have hf0 := hf
  refine Ct.of (own := RJ4) (by decide +kernel) rfl (Nat.le_of_ble_eq_true rfl) ?_
  intro p e s m below meth c hx hb hr hml hown hts hlocks hin hK A H locs hA hP hD hS hE ls hl
  have hl : lv_has ls 2 [(0, .ref (a0 0)), (1, .int p1)] := hl
  unfold m_J4_charAt_5068e at hf
  refine lv_aload_n hx hb dJ4_charAt_5068e_0 rfl (lv_at hl 0 rfl) ?_
  refine lv_iload_n hx hb dJ4_charAt_5068e_1 rfl (lv_at hl 1 rfl) ?_
  refine cIp hP hD hS hA hE (fun hPc hDc hSc => rSU (As := [.int p1]) (rest := []) hx hb hml hown hts hK (c_J5_charAt_5068e l g a0 v0_a v0_m v0_f v0_l v0_n p1 (bnd_ne hf)) svU_J5_charAt_5068e kw1134 rfl rfl hPc hDc hSc rfl rfl hl.1 (Nat.le_of_ble_eq_true rfl) dJ4_charAt_5068e_2 ⟨Nat.le_of_ble_eq_true rfl, Nat.le_of_ble_eq_true rfl, rfl, rfl, Nat.le_of_ble_eq_true rfl, Nat.le_of_ble_eq_true rfl⟩) [(0, 2)] rfl rfl rfl (fun x1 H locs ex1 nx1 hP hS => ?_)
  have hf := bnd_of hf ex1
  exact retI (v := x1) (u := x1) (val := fun u => u) (W1 := fun u => wSBX a0 g v0_a v0_m v0_f v0_l v0_n) hx hb hr hlocks hS hP hD (hf0.trans hf.symm) rfl nx1 dJ4_charAt_5068e_5
set_option maxHeartbeats 4000000 in
set_option maxRecDepth 100000 in
theorem c_J0_getBytes_840e7 (l : Launch) (g : GG) (a0 : Nat → Nat) (v0_m : Nat) (v0_f : (Nat → Int32)) (t0 : Nat) (p2 : Int32) (p3 : Int32) (hne : (m_J0_getBytes_840e7 (v0_m, v0_f) t0 p2 p3) ≠ none) : Ct l g yJ0_getBytes_840e7 cJ0_getBytes_840e7 4 none ({ frames := 1, cells := 0, slots := 0, locals := 60 } : Room) [.ref (adK g t0), .ref (a0 0), .int p2, .int p3] (wBAX a0 g v0_m v0_f) (Qv g (m_J0_getBytes_840e7 (v0_m, v0_f) t0 p2 p3) (fun u => wBAX a0 g v0_m u)) 0 0 := by
  obtain ⟨out, hf⟩ := ne_ex hne
  have hf0 := hf
  refine Ct.of (own := RJ0) (by decide +kernel) rfl (Nat.le_of_ble_eq_true rfl) ?_
  intro p e s m below meth c hx hb hr hml hown hts hlocks hin hK A H locs hA hP hD hS hE ls hl
  have hl : lv_has ls 4 [(0, .ref (adK g t0)), (1, .ref (a0 0)), (2, .int p2), (3, .int p3)] := hl
  unfold m_J0_getBytes_840e7 at hf
  have hT := it_n hf
  have hf := it_t hT hf
  refine lv_aload_n hx hb dJ0_getBytes_840e7_0 rfl (lv_at hl 0 rfl) ?_
  have hT9 := it_n hf
  have hf := it_t hT9 hf
  refine cIp hP hD hS hA hE (fun hPc hDc hSc => rVs (As := []) (rest := []) hx hb hml hown hts hK (c_J0_coder_7d493 l g t0 (bnd_ne hf)) svV_J0_coder_7d493 kw313 hE hS hT9 hPc hDc hSc rfl rfl hl.1 (Nat.le_of_ble_eq_true rfl) dJ0_getBytes_840e7_1 ⟨Nat.le_of_ble_eq_true rfl, Nat.le_of_ble_eq_true rfl, rfl, rfl, Nat.le_of_ble_eq_true rfl, Nat.le_of_ble_eq_true rfl⟩) [] rfl rfl rfl (fun x1 H locs ex1 nx1 hP hS => ?_)
  have hf := bnd_of hf ex1
  refine lv_iload_n hx hb dJ0_getBytes_840e7_4 rfl (lv_at hl 3 rfl) ?_
  refine lv_icmp_ne (tgt := 28) hx hb dJ0_getBytes_840e7_5 (by decide) (fun cb => ?_) (fun cb => ?_)
  · have hf := it_f cb hf
    cases hf
  have hf := it_t cb hf
  refine lv_aload_n hx hb dJ0_getBytes_840e7_8 rfl (lv_at hl 0 rfl) ?_
  refine vk_getf hx hb (hE.1.1 _ hT).2.2.1 hS hown (hts _ kw1785) (fun _ h9 => h9) dJ0_getBytes_840e7_9 ?_
  refine lv_iconst (v := 0) hx hb dJ0_getBytes_840e7_12 (by decide) ?_
  refine lv_aload_n hx hb dJ0_getBytes_840e7_13 rfl (lv_at hl 1 rfl) ?_
  refine lv_iload_n hx hb dJ0_getBytes_840e7_14 rfl (lv_at hl 2 rfl) ?_
  refine lv_iload_n hx hb dJ0_getBytes_840e7_15 rfl (lv_at hl 3 rfl) ?_
  refine lv_ishl hx hb dJ0_getBytes_840e7_16 ?_
  refine lv_aload_n hx hb dJ0_getBytes_840e7_17 rfl (lv_at hl 0 rfl) ?_
  refine vk_getf hx hb (hE.1.1 _ hT).2.2.1 hS hown (hts _ kw1785) (fun _ h9 => h9) dJ0_getBytes_840e7_18 ?_
  refine va_tlen (v := (nI (lenS.getD t0 0))) hx hb (hE.1.1 _ hT).2.2.2 hS rfl dJ0_getBytes_840e7_21 ?_
  have hi := it_n hf
  have hf := it_t hi hf
  refine vk_copyt hx hb (hml.trans hl.1.symm) hown (hts _ kw1121) (hts _ kw1005) (hts _ kw1004) (hts _ kw22) hK.1 hP hD hS (hE.1.1 _ hT).2.2.2 0 2 rfl rfl hi.1 hi.2.1 hi.2.2.1 hi.2.2.2.1 hi.2.2.2.2 (fun i _ => fitS _ _) (Nat.le_of_ble_eq_true rfl) (Nat.le_of_ble_eq_true rfl) dJ0_getBytes_840e7_22 (fun H locs hP hD hS => ?_)
  have hP : va_P g.1 vwCl (wBAX a0 g v0_m (va_cpy (fun j => (bytS.getD t0 []).getD j 0) v0_f (0 : Int32).toNatClampNeg (p2 <<< (p3 &&& 31)).toNatClampNeg (nI (lenS.getD t0 0)).toNatClampNeg)) H := hP
  have hD : va_D A (wBAX a0 g v0_m (va_cpy (fun j => (bytS.getD t0 []).getD j 0) v0_f (0 : Int32).toNatClampNeg (p2 <<< (p3 &&& 31)).toNatClampNeg (nI (lenS.getD t0 0)).toNatClampNeg)) := hD
  refine lv_goto (tgt := 43) hx hb dJ0_getBytes_840e7_25 (by decide) ?_
  exact retV (u := (va_cpy (fun j => (bytS.getD t0 []).getD j 0) v0_f (0 : Int32).toNatClampNeg (p2 <<< (p3 &&& 31)).toNatClampNeg (nI (lenS.getD t0 0)).toNatClampNeg)) (W1 := fun u => wBAX a0 g v0_m u) hx hb hr hlocks hS hP hD (hf0.trans hf.symm) dJ0_getBytes_840e7_43
set_option maxHeartbeats 4000000 in
set_option maxRecDepth 100000 in
theorem c_J5_inflateIfNeededFor_a7421 (l : Launch) (g : GG) (a0 : Nat → Nat) (v0_a : Nat) (v0_m : Nat) (v0_f : (Nat → Int32)) (v0_l : Int32) (v0_n : Int32) (p1 : Nat) (hne : (m_J5_inflateIfNeededFor_a7421 (v0_a, v0_m, v0_f, v0_l, v0_n) p1) ≠ none) : Ct l g yJ5_inflateIfNeededFor_a7421 cJ5_inflateIfNeededFor_a7421 2 none ({ frames := 1, cells := 0, slots := 0, locals := 20 } : Room) [.ref (a0 0), .ref (adK g p1)] (wSBX a0 g v0_a v0_m v0_f v0_l v0_n) (Qv g (m_J5_inflateIfNeededFor_a7421 (v0_a, v0_m, v0_f, v0_l, v0_n) p1) (fun u => wSBX a0 g v0_a v0_m v0_f v0_l v0_n)) 0 0 := by
  obtain ⟨out, hf⟩ := ne_ex hne
  have hf0 := hf
  refine Ct.of (own := RJ5) (by decide +kernel) rfl (Nat.le_of_ble_eq_true rfl) ?_
  intro p e s m below meth c hx hb hr hml hown hts hlocks hin hK A H locs hA hP hD hS hE ls hl
  have hl : lv_has ls 2 [(0, .ref (a0 0)), (1, .ref (adK g p1))] := hl
  unfold m_J5_inflateIfNeededFor_a7421 at hf
  refine va_gets hx hb hE.2.1 hS hown (hts _ kw213) (fun _ h9 => h9) dJ5_inflateIfNeededFor_a7421_0 ?_
  refine lv_if_eq (tgt := 21) hx hb dJ5_inflateIfNeededFor_a7421_3 (by decide) (fun cb => ?_) (fun cb => ?_)
  · have hf := it_t cb hf
    exact retV (u := ()) (W1 := fun u => wSBX a0 g v0_a v0_m v0_f v0_l v0_n) hx hb hr hlocks hS hP hD (hf0.trans hf.symm) dJ5_inflateIfNeededFor_a7421_21
  have hf := it_f cb hf
  refine lv_aload_n hx hb dJ5_inflateIfNeededFor_a7421_6 rfl (lv_at hl 0 rfl) ?_
  refine va_get (D := g.1) (ci := 0) (v := .int (0 : Int32)) (C := RJ4) (T := TJ4) (N := 4) hx hb hts layJ4 hown hK.1 hP 0 rfl rfl 1 (by decide) (hts _ kw222) (fun _ h9 => h9) rfl dJ5_inflateIfNeededFor_a7421_7 ?_
  refine lv_aload_n hx hb dJ5_inflateIfNeededFor_a7421_10 rfl (lv_at hl 1 rfl) ?_
  have hT9 := it_n hf
  have hf := it_t hT9 hf
  refine cIp hP hD hS hA hE (fun hPc hDc hSc => rVs (As := []) (rest := [.int (0 : Int32)]) hx hb hml hown hts hK (c_J0_coder_7d493 l g p1 (bnd_ne hf)) svV_J0_coder_7d493 kw1116 hE hS hT9 hPc hDc hSc rfl rfl hl.1 (Nat.le_of_ble_eq_true rfl) dJ5_inflateIfNeededFor_a7421_11 ⟨Nat.le_of_ble_eq_true rfl, Nat.le_of_ble_eq_true rfl, rfl, rfl, Nat.le_of_ble_eq_true rfl, Nat.le_of_ble_eq_true rfl⟩) [] rfl rfl rfl (fun x1 H locs ex1 nx1 hP hS => ?_)
  have hf := bnd_of hf ex1
  refine lv_icmp_eq (tgt := 21) hx hb dJ5_inflateIfNeededFor_a7421_14 (by decide) (fun cb => ?_) (fun cb => ?_)
  · have hf := it_t cb hf
    exact retV (u := ()) (W1 := fun u => wSBX a0 g v0_a v0_m v0_f v0_l v0_n) hx hb hr hlocks hS hP hD (hf0.trans hf.symm) dJ5_inflateIfNeededFor_a7421_21
  have hf := it_f cb hf
  cases hf
set_option maxHeartbeats 4000000 in
set_option maxRecDepth 100000 in
theorem c_J5_putStringAt_47b60 (l : Launch) (g : GG) (a0 : Nat → Nat) (v0_a : Nat) (v0_m : Nat) (v0_f : (Nat → Int32)) (v0_l : Int32) (v0_n : Int32) (p1 : Int32) (p2 : Nat) (hne : (m_J5_putStringAt_47b60 (v0_a, v0_m, v0_f, v0_l, v0_n) p1 p2) ≠ none) : Ct l g yJ5_putStringAt_47b60 cJ5_putStringAt_47b60 3 none ({ frames := 2, cells := 0, slots := 0, locals := 83 } : Room) [.ref (a0 0), .int p1, .ref (adK g p2)] (wSBX a0 g v0_a v0_m v0_f v0_l v0_n) (Qv g (m_J5_putStringAt_47b60 (v0_a, v0_m, v0_f, v0_l, v0_n) p1 p2) (fun u => wSBX a0 g v0_a v0_m u v0_l v0_n)) 0 0 := by
  obtain ⟨out, hf⟩ := ne_ex hne
  have hf0 := hf
  refine Ct.of (own := RJ5) (by decide +kernel) rfl (Nat.le_of_ble_eq_true rfl) ?_
  intro p e s m below meth c hx hb hr hml hown hts hlocks hin hK A H locs hA hP hD hS hE ls hl
  have hl : lv_has ls 3 [(0, .ref (a0 0)), (1, .int p1), (2, .ref (adK g p2))] := hl
  unfold m_J5_putStringAt_47b60 at hf
  refine lv_aload_n hx hb dJ5_putStringAt_47b60_0 rfl (lv_at hl 0 rfl) ?_
  refine lv_aload_n hx hb dJ5_putStringAt_47b60_1 rfl (lv_at hl 2 rfl) ?_
  refine cV hP hD hS hA hE (fun hPc hDc hSc => rVp (As := [.ref (adK g p2)]) (rest := []) hx hb hml hown hts hK (c_J5_inflateIfNeededFor_a7421 l g a0 v0_a v0_m v0_f v0_l v0_n p2 (bnd_ne hf)) svP_J5_inflateIfNeededFor_a7421 kw1113 rfl rfl hPc hDc hSc rfl rfl hl.1 (Nat.le_of_ble_eq_true rfl) dJ5_putStringAt_47b60_2 ⟨Nat.le_of_ble_eq_true rfl, Nat.le_of_ble_eq_true rfl, rfl, rfl, Nat.le_of_ble_eq_true rfl, Nat.le_of_ble_eq_true rfl⟩) [(0, 2)] rfl rfl rfl (fun _ => rfl) (fun x1 H locs ex1 hP hD hS => ?_)
  have hf := bnd_of hf ex1
  have hP : va_P g.1 vwCl (wSBX a0 g v0_a v0_m v0_f v0_l v0_n) H := hP
  have hD : va_D A (wSBX a0 g v0_a v0_m v0_f v0_l v0_n) := hD
  refine lv_aload_n hx hb dJ5_putStringAt_47b60_5 rfl (lv_at hl 2 rfl) ?_
  refine lv_aload_n hx hb dJ5_putStringAt_47b60_6 rfl (lv_at hl 0 rfl) ?_
  refine va_get (D := g.1) (ci := 0) (v := .ref v0_a) (C := RJ4) (T := TJ4) (N := 4) hx hb hts layJ4 hown hK.1 hP 0 rfl rfl 0 (by decide) (hts _ kw221) (fun _ h9 => h9) rfl dJ5_putStringAt_47b60_7 ?_
  refine lv_iload_n hx hb dJ5_putStringAt_47b60_10 rfl (lv_at hl 1 rfl) ?_
  refine lv_aload_n hx hb dJ5_putStringAt_47b60_11 rfl (lv_at hl 0 rfl) ?_
  refine va_get (D := g.1) (ci := 0) (v := .int (0 : Int32)) (C := RJ4) (T := TJ4) (N := 4) hx hb hts layJ4 hown hK.1 hP 0 rfl rfl 1 (by decide) (hts _ kw222) (fun _ h9 => h9) rfl dJ5_putStringAt_47b60_12 ?_
  have hT9 := it_n hf
  have hf := it_t hT9 hf
  refine cV hP hD hS hA hE (fun hPc hDc hSc => rVs (As := [.ref v0_a, .int p1, .int (0 : Int32)]) (rest := []) hx hb hml hown hts hK (c_J0_getBytes_840e7 l g (fun _ => v0_a) v0_m v0_f p2 p1 (0 : Int32) (bnd_ne hf)) svV_J0_getBytes_840e7 kw1117 hE hS hT9 hPc hDc hSc rfl rfl hl.1 (Nat.le_of_ble_eq_true rfl) dJ5_putStringAt_47b60_15 ⟨Nat.le_of_ble_eq_true rfl, Nat.le_of_ble_eq_true rfl, rfl, rfl, Nat.le_of_ble_eq_true rfl, Nat.le_of_ble_eq_true rfl⟩) [(1, 1)] rfl rfl rfl (fun _ => rfl) (fun x2 H locs ex2 hP hD hS => ?_)
  have hf := bnd_of hf ex2
  have hP : va_P g.1 vwCl (wSBX a0 g v0_a v0_m x2 v0_l v0_n) H := hP
  have hD : va_D A (wSBX a0 g v0_a v0_m x2 v0_l v0_n) := hD
  exact retV (u := x2) (W1 := fun u => wSBX a0 g v0_a v0_m u v0_l v0_n) hx hb hr hlocks hS hP hD (hf0.trans hf.symm) dJ5_putStringAt_47b60_18
