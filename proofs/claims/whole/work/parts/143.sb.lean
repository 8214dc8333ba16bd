def m_J5_append_3fe6f (s0 : TSB) (p1 : Int32) : Option (Nat × (Nat → Int32) × Int32) :=
  (m_J5_ensure s0 ((pSB_n s0) + (1 : Int32))).bind fun x1 => (m_J5_isLatin1_aae02 (uSB_f x1.2 (uSB_m x1.1 s0))).bind fun x3 => Option.bind (α := ((Nat → Int32) × Int32) ⊕ (Nat × (Nat → Int32) × Int32)) (if x3 = 0 then (some (.inl (x1.2, (pSB_n s0)))) else ((m_J1_canEncode_fc78d p1).bind fun x7 => if x7 = 0 then (some (.inl (x1.2, (pSB_n s0)))) else (if inb (pSB_n s0) x1.1 = true then (some (.inr (x1.1, (upd x1.2 (pSB_n s0).toNatClampNeg (vp_nar .byte p1.toInt8.toInt32)), ((pSB_n s0) + (1 : Int32))))) else none))) fun r5 => match r5 with | .inl x6 => (none) | .inr v => some v
def m_J4_append_cf468 (s0 : TSB) (p1 : Int32) : Option (Nat × (Nat → Int32) × Int32) :=
  (m_J5_append_3fe6f s0 p1).bind fun x1 => some (x1.1, x1.2.1, x1.2.2)
def m_J5_append_c97b9 (s0 : TSB) (p1 : Int32) : Option (Nat × (Nat → Int32) × Int32) :=
  (m_J6_stringSize_0f7a4 p1).bind fun x1 => (m_J5_ensure s0 ((pSB_n s0) + x1)).bind fun x2 => (m_J5_isLatin1_aae02 (uSB_f x2.2 (uSB_m x2.1 s0))).bind fun x4 => if x4 = 0 then (none) else ((m_J6_getChars_ba4f3 (x2.1, x2.2) p1 ((pSB_n s0) + x1)).bind fun x5 => some (x2.1, x5.2, ((pSB_n s0) + x1)))
def m_J4_append_bf812 (s0 : TSB) (p1 : Int32) : Option (Nat × (Nat → Int32) × Int32) :=
  (m_J5_append_c97b9 s0 p1).bind fun x1 => some (x1.1, x1.2.1, x1.2.2)
def m_J5_append_cf1ce (s0 : TSB) (p1 : Nat) : Option (Nat × (Nat → Int32) × Int32) :=
  if p1 < 10 then ((m_J0_length_8abf5 p1).bind fun x1 => (m_J5_ensure s0 ((pSB_n s0) + x1)).bind fun x2 => (m_J5_putStringAt_47b60 (uSB_f x2.2 (uSB_m x2.1 s0)) (pSB_n s0) p1).bind fun x4 => some (x2.1, x4, ((pSB_n s0) + x1))) else none
def m_J4_append_15ec4 (s0 : TSB) (p1 : Nat) : Option (Nat × (Nat → Int32) × Int32) :=
  (m_J5_append_cf1ce s0 p1).bind fun x1 => some (x1.1, x1.2.1, x1.2.2)
def m_J5_setLength_d00df (s0 : TSB) (p1 : Int32) : Option (Nat × (Nat → Int32) × Int32 × Int32) :=
  if 0 ≤ p1 then ((m_J5_ensure s0 p1).bind fun x1 => if p1 ≤ (pSB_n s0) then (if (pSB_n s0) ≤ p1 then (some (x1.1, x1.2, (pSB_l s0), p1)) else (some (x1.1, x1.2, (1 : Int32), p1))) else ((m_J5_isLatin1_aae02 (uSB_f x1.2 (uSB_m x1.1 s0))).bind fun x3 => if x3 = 0 then (none) else (none))) else (none)
def m_J4_setLength_d00df (s0 : TSB) (p1 : Int32) : Option (Nat × (Nat → Int32) × Int32 × Int32) :=
  (m_J5_setLength_d00df s0 p1).bind fun x1 => some (x1.1, x1.2.1, x1.2.2.1, x1.2.2.2)
theorem svP_J5_ensureCapacityInternal_d00df : Cond.sameMethod (yJ5_ensureCapacityInternal_d00df).cls (yJ5_ensureCapacityInternal_d00df).cls (yJ5_ensureCapacityInternal_d00df).name (yJ5_ensureCapacityInternal_d00df).desc ∈ G ∧ Cond.instanceMethod yJ5_ensureCapacityInternal_d00df ∈ G ∧ Cond.selects RJ4 yJ5_ensureCapacityInternal_d00df yJ5_ensureCapacityInternal_d00df ∈ sbS ∧ Cond.initialized (yJ5_ensureCapacityInternal_d00df).cls ∈ G ∧ Cond.code yJ5_ensureCapacityInternal_d00df cJ5_ensureCapacityInternal_d00df 3 none ∈ G ∧ (yJ5_ensureCapacityInternal_d00df).cls ≠ "java/lang/invoke/MethodHandle" ∧ (yJ5_ensureCapacityInternal_d00df).cls ≠ "java/lang/invoke/VarHandle" ∧ (parseMethodDescriptor (yJ5_ensureCapacityInternal_d00df).desc).map (fun d => d.parameters.length) = some 1 := ⟨kw1774, kw979, by unfold sbS; exact List.Mem.head _, kw12, kw980, by decide, by decide, by decide +kernel⟩
theorem svH_J5_isLatin1_aae02 : Cond.sameMethod (yJ5_isLatin1_aae02).cls (yJ5_isLatin1_aae02).cls (yJ5_isLatin1_aae02).name (yJ5_isLatin1_aae02).desc ∈ G ∧ Cond.instanceMethod yJ5_isLatin1_aae02 ∈ G ∧ Cond.selects RJ4 yJ5_isLatin1_aae02 yJ5_isLatin1_aae02 ∈ G ∧ Cond.initialized (yJ5_isLatin1_aae02).cls ∈ G ∧ Cond.code yJ5_isLatin1_aae02 cJ5_isLatin1_aae02 1 (some .boolean) ∈ G ∧ (yJ5_isLatin1_aae02).cls ≠ "java/lang/invoke/MethodHandle" ∧ (yJ5_isLatin1_aae02).cls ≠ "java/lang/invoke/VarHandle" ∧ (parseMethodDescriptor (yJ5_isLatin1_aae02).desc).map (fun d => d.parameters.length) = some 0 := ⟨kw1008, kw1007, kw1009, kw12, kw1010, by decide, by decide, by decide +kernel⟩
theorem svS_J1_canEncode_fc78d : SS RJ1 yJ1_canEncode_fc78d cJ1_canEncode_fc78d 1 (some .boolean) 1 := ⟨kw1067, kw17, kw1068, rfl, by decide, by decide, by decide +kernel⟩
theorem svU_J5_append_3fe6f : Cond.sameMethod (yJ5_append_3fe6f).cls (yJ5_append_3fe6f).cls (yJ5_append_3fe6f).name (yJ5_append_3fe6f).desc ∈ G ∧ Cond.superclass RJ4 (yJ5_append_3fe6f).cls ∈ G ∧ Cond.instanceMethod yJ5_append_3fe6f ∈ G ∧ Cond.initialized (yJ5_append_3fe6f).cls ∈ G ∧ Cond.code yJ5_append_3fe6f cJ5_append_3fe6f 2 (Option.some (Jvm.ClassFile.FieldType.object RJ5)) ∈ G ∧ (yJ5_append_3fe6f).name ≠ "<init>" ∧ (parseMethodDescriptor (yJ5_append_3fe6f).desc).map (fun d => d.parameters.length) = some 1 := ⟨kw1777, kw229, kw1064, kw12, kw1065, by decide, by decide +kernel⟩
theorem svS_J6_stringSize_0f7a4 : SS RJ6 yJ6_stringSize_0f7a4 cJ6_stringSize_0f7a4 4 (some .int) 1 := ⟨kw1032, kw19, kw1033, rfl, by decide, by decide, by decide +kernel⟩
theorem svS_J6_getChars_ba4f3 : SS RJ6 yJ6_getChars_ba4f3 cJ6_getChars_ba4f3 7 (some .int) 3 := ⟨kw1035, kw19, kw1036, rfl, by decide, by decide, by decide +kernel⟩
theorem svU_J5_append_c97b9 : Cond.sameMethod (yJ5_append_c97b9).cls (yJ5_append_c97b9).cls (yJ5_append_c97b9).name (yJ5_append_c97b9).desc ∈ G ∧ Cond.superclass RJ4 (yJ5_append_c97b9).cls ∈ G ∧ Cond.instanceMethod yJ5_append_c97b9 ∈ G ∧ Cond.initialized (yJ5_append_c97b9).cls ∈ G ∧ Cond.code yJ5_append_c97b9 cJ5_append_c97b9 4 (Option.some (Jvm.ClassFile.FieldType.object RJ5)) ∈ G ∧ (yJ5_append_c97b9).name ≠ "<init>" ∧ (parseMethodDescriptor (yJ5_append_c97b9).desc).map (fun d => d.parameters.length) = some 1 := ⟨kw1776, kw229, kw1029, kw12, kw1030, by decide, by decide +kernel⟩
theorem svP_J5_putStringAt_47b60 : Cond.sameMethod (yJ5_putStringAt_47b60).cls (yJ5_putStringAt_47b60).cls (yJ5_putStringAt_47b60).name (yJ5_putStringAt_47b60).desc ∈ G ∧ Cond.instanceMethod yJ5_putStringAt_47b60 ∈ G ∧ Cond.selects RJ4 yJ5_putStringAt_47b60 yJ5_putStringAt_47b60 ∈ sbS ∧ Cond.initialized (yJ5_putStringAt_47b60).cls ∈ G ∧ Cond.code yJ5_putStringAt_47b60 cJ5_putStringAt_47b60 3 none ∈ G ∧ (yJ5_putStringAt_47b60).cls ≠ "java/lang/invoke/MethodHandle" ∧ (yJ5_putStringAt_47b60).cls ≠ "java/lang/invoke/VarHandle" ∧ (parseMethodDescriptor (yJ5_putStringAt_47b60).desc).map (fun d => d.parameters.length) = some 2 := ⟨kw1781, kw1111, by unfold sbS; exact List.Mem.tail _ (List.Mem.tail _ (List.Mem.head _)), kw12, kw1112, by decide, by decide, by decide +kernel⟩
theorem svU_J5_append_cf1ce : Cond.sameMethod (yJ5_append_cf1ce).cls (yJ5_append_cf1ce).cls (yJ5_append_cf1ce).name (yJ5_append_cf1ce).desc ∈ G ∧ Cond.superclass RJ4 (yJ5_append_cf1ce).cls ∈ G ∧ Cond.instanceMethod yJ5_append_cf1ce ∈ G ∧ Cond.initialized (yJ5_append_cf1ce).cls ∈ G ∧ Cond.code yJ5_append_cf1ce cJ5_append_cf1ce 3 (Option.some (Jvm.ClassFile.FieldType.object RJ5)) ∈ G ∧ (yJ5_append_cf1ce).name ≠ "<init>" ∧ (parseMethodDescriptor (yJ5_append_cf1ce).desc).map (fun d => d.parameters.length) = some 1 := ⟨kw1779, kw229, kw1101, kw12, kw1102, by decide, by decide +kernel⟩
theorem svU_J5_setLength_d00df : Cond.sameMethod (yJ5_setLength_d00df).cls (yJ5_setLength_d00df).cls (yJ5_setLength_d00df).name (yJ5_setLength_d00df).desc ∈ G ∧ Cond.superclass RJ4 (yJ5_setLength_d00df).cls ∈ G ∧ Cond.instanceMethod yJ5_setLength_d00df ∈ G ∧ Cond.initialized (yJ5_setLength_d00df).cls ∈ G ∧ Cond.code yJ5_setLength_d00df cJ5_setLength_d00df 2 none ∈ G ∧ (yJ5_setLength_d00df).name ≠ "<init>" ∧ (parseMethodDescriptor (yJ5_setLength_d00df).desc).map (fun d => d.parameters.length) = some 1 := ⟨kw1773, kw229, kw976, kw12, kw977, by decide, by decide +kernel⟩
theorem dJ4_append_15ec4_0 : decode cJ4_append_15ec4 0 = .ok (.aload_n 0, 1) := by decide +kernel
theorem dJ4_append_15ec4_1 : decode cJ4_append_15ec4 1 = .ok (.aload_n 1, 1) := by decide +kernel
theorem dJ4_append_15ec4_2 : decode cJ4_append_15ec4 2 = .ok (.invokespecial 29, 3) := by decide +kernel
theorem dJ4_append_15ec4_5 : decode cJ4_append_15ec4 5 = .ok (.pop, 1) := by decide +kernel
theorem dJ4_append_15ec4_6 : decode cJ4_append_15ec4 6 = .ok (.aload_n 0, 1) := by decide +kernel
theorem dJ4_append_15ec4_7 : decode cJ4_append_15ec4 7 = .ok (.areturn, 1) := by decide +kernel
theorem dJ4_append_bf812_0 : decode cJ4_append_bf812 0 = .ok (.aload_n 0, 1) := by decide +kernel
theorem dJ4_append_bf812_1 : decode cJ4_append_bf812 1 = .ok (.iload_n 1, 1) := by decide +kernel
theorem dJ4_append_bf812_2 : decode cJ4_append_bf812 2 = .ok (.invokespecial 53, 3) := by decide +kernel
theorem dJ4_append_bf812_5 : decode cJ4_append_bf812 5 = .ok (.pop, 1) := by decide +kernel
theorem dJ4_append_bf812_6 : decode cJ4_append_bf812 6 = .ok (.aload_n 0, 1) := by decide +kernel
theorem dJ4_append_bf812_7 : decode cJ4_append_bf812 7 = .ok (.areturn, 1) := by decide +kernel
theorem dJ4_append_cf468_0 : decode cJ4_append_cf468 0 = .ok (.aload_n 0, 1) := by decide +kernel
theorem dJ4_append_cf468_1 : decode cJ4_append_cf468 1 = .ok (.iload_n 1, 1) := by decide +kernel
theorem dJ4_append_cf468_2 : decode cJ4_append_cf468 2 = .ok (.invokespecial 50, 3) := by decide +kernel
theorem dJ4_append_cf468_5 : decode cJ4_append_cf468 5 = .ok (.pop, 1) := by decide +kernel
theorem dJ4_append_cf468_6 : decode cJ4_append_cf468 6 = .ok (.aload_n 0, 1) := by decide +kernel
theorem dJ4_append_cf468_7 : decode cJ4_append_cf468 7 = .ok (.areturn, 1) := by decide +kernel
theorem dJ4_setLength_d00df_0 : decode cJ4_setLength_d00df 0 = .ok (.aload_n 0, 1) := by decide +kernel
theorem dJ4_setLength_d00df_1 : decode cJ4_setLength_d00df 1 = .ok (.iload_n 1, 1) := by decide +kernel
theorem dJ4_setLength_d00df_2 : decode cJ4_setLength_d00df 2 = .ok (.invokespecial 333, 3) := by decide +kernel
theorem dJ4_setLength_d00df_5 : decode cJ4_setLength_d00df 5 = .ok (.return_, 1) := by decide +kernel
theorem dJ5_append_3fe6f_0 : decode cJ5_append_3fe6f 0 = .ok (.aload_n 0, 1) := by decide +kernel
theorem dJ5_append_3fe6f_1 : decode cJ5_append_3fe6f 1 = .ok (.aload_n 0, 1) := by decide +kernel
theorem dJ5_append_3fe6f_10 : decode cJ5_append_3fe6f 10 = .ok (.aload_n 0, 1) := by decide +kernel
theorem dJ5_append_3fe6f_11 : decode cJ5_append_3fe6f 11 = .ok (.invokevirtual 83, 3) := by decide +kernel
theorem dJ5_append_3fe6f_14 : decode cJ5_append_3fe6f 14 = .ok (.ifCond .eq 31, 3) := by decide +kernel
theorem dJ5_append_3fe6f_17 : decode cJ5_append_3fe6f 17 = .ok (.iload_n 1, 1) := by decide +kernel
theorem dJ5_append_3fe6f_18 : decode cJ5_append_3fe6f 18 = .ok (.invokestatic 191, 3) := by decide +kernel
theorem dJ5_append_3fe6f_2 : decode cJ5_append_3fe6f 2 = .ok (.getfield 79, 3) := by decide +kernel
theorem dJ5_append_3fe6f_21 : decode cJ5_append_3fe6f 21 = .ok (.ifCond .eq 24, 3) := by decide +kernel
theorem dJ5_append_3fe6f_24 : decode cJ5_append_3fe6f 24 = .ok (.aload_n 0, 1) := by decide +kernel
theorem dJ5_append_3fe6f_25 : decode cJ5_append_3fe6f 25 = .ok (.getfield 15, 3) := by decide +kernel
theorem dJ5_append_3fe6f_28 : decode cJ5_append_3fe6f 28 = .ok (.aload_n 0, 1) := by decide +kernel
theorem dJ5_append_3fe6f_29 : decode cJ5_append_3fe6f 29 = .ok (.dup, 1) := by decide +kernel
theorem dJ5_append_3fe6f_30 : decode cJ5_append_3fe6f 30 = .ok (.getfield 79, 3) := by decide +kernel
theorem dJ5_append_3fe6f_33 : decode cJ5_append_3fe6f 33 = .ok (.dup_x1, 1) := by decide +kernel
theorem dJ5_append_3fe6f_34 : decode cJ5_append_3fe6f 34 = .ok (.iconst 1, 1) := by decide +kernel
theorem dJ5_append_3fe6f_35 : decode cJ5_append_3fe6f 35 = .ok (.iadd, 1) := by decide +kernel
theorem dJ5_append_3fe6f_36 : decode cJ5_append_3fe6f 36 = .ok (.putfield 79, 3) := by decide +kernel
theorem dJ5_append_3fe6f_39 : decode cJ5_append_3fe6f 39 = .ok (.iload_n 1, 1) := by decide +kernel
theorem dJ5_append_3fe6f_40 : decode cJ5_append_3fe6f 40 = .ok (.i2b, 1) := by decide +kernel
theorem dJ5_append_3fe6f_41 : decode cJ5_append_3fe6f 41 = .ok (.bastore, 1) := by decide +kernel
theorem dJ5_append_3fe6f_42 : decode cJ5_append_3fe6f 42 = .ok (.goto 33, 3) := by decide +kernel
theorem dJ5_append_3fe6f_5 : decode cJ5_append_3fe6f 5 = .ok (.iconst 1, 1) := by decide +kernel
theorem dJ5_append_3fe6f_6 : decode cJ5_append_3fe6f 6 = .ok (.iadd, 1) := by decide +kernel
theorem dJ5_append_3fe6f_7 : decode cJ5_append_3fe6f 7 = .ok (.invokevirtual 100, 3) := by decide +kernel
theorem dJ5_append_3fe6f_75 : decode cJ5_append_3fe6f 75 = .ok (.aload_n 0, 1) := by decide +kernel
theorem dJ5_append_3fe6f_76 : decode cJ5_append_3fe6f 76 = .ok (.areturn, 1) := by decide +kernel
theorem dJ5_append_c97b9_0 : decode cJ5_append_c97b9 0 = .ok (.aload_n 0, 1) := by decide +kernel
theorem dJ5_append_c97b9_1 : decode cJ5_append_c97b9 1 = .ok (.getfield 79, 3) := by decide +kernel
theorem dJ5_append_c97b9_10 : decode cJ5_append_c97b9 10 = .ok (.iadd, 1) := by decide +kernel
theorem dJ5_append_c97b9_11 : decode cJ5_append_c97b9 11 = .ok (.istore_n 3, 1) := by decide +kernel
theorem dJ5_append_c97b9_12 : decode cJ5_append_c97b9 12 = .ok (.aload_n 0, 1) := by decide +kernel
theorem dJ5_append_c97b9_13 : decode cJ5_append_c97b9 13 = .ok (.iload_n 3, 1) := by decide +kernel
theorem dJ5_append_c97b9_14 : decode cJ5_append_c97b9 14 = .ok (.invokevirtual 100, 3) := by decide +kernel
theorem dJ5_append_c97b9_17 : decode cJ5_append_c97b9 17 = .ok (.aload_n 0, 1) := by decide +kernel
theorem dJ5_append_c97b9_18 : decode cJ5_append_c97b9 18 = .ok (.invokevirtual 83, 3) := by decide +kernel
theorem dJ5_append_c97b9_21 : decode cJ5_append_c97b9 21 = .ok (.ifCond .eq 16, 3) := by decide +kernel
theorem dJ5_append_c97b9_24 : decode cJ5_append_c97b9 24 = .ok (.iload_n 1, 1) := by decide +kernel
theorem dJ5_append_c97b9_25 : decode cJ5_append_c97b9 25 = .ok (.iload_n 3, 1) := by decide +kernel
theorem dJ5_append_c97b9_26 : decode cJ5_append_c97b9 26 = .ok (.aload_n 0, 1) := by decide +kernel
theorem dJ5_append_c97b9_27 : decode cJ5_append_c97b9 27 = .ok (.getfield 15, 3) := by decide +kernel
theorem dJ5_append_c97b9_30 : decode cJ5_append_c97b9 30 = .ok (.invokestatic 248, 3) := by decide +kernel
theorem dJ5_append_c97b9_33 : decode cJ5_append_c97b9 33 = .ok (.pop, 1) := by decide +kernel
theorem dJ5_append_c97b9_34 : decode cJ5_append_c97b9 34 = .ok (.goto 14, 3) := by decide +kernel
theorem dJ5_append_c97b9_4 : decode cJ5_append_c97b9 4 = .ok (.istore_n 2, 1) := by decide +kernel
theorem dJ5_append_c97b9_48 : decode cJ5_append_c97b9 48 = .ok (.aload_n 0, 1) := by decide +kernel
theorem dJ5_append_c97b9_49 : decode cJ5_append_c97b9 49 = .ok (.iload_n 3, 1) := by decide +kernel
theorem dJ5_append_c97b9_5 : decode cJ5_append_c97b9 5 = .ok (.iload_n 2, 1) := by decide +kernel
theorem dJ5_append_c97b9_50 : decode cJ5_append_c97b9 50 = .ok (.putfield 79, 3) := by decide +kernel
theorem dJ5_append_c97b9_53 : decode cJ5_append_c97b9 53 = .ok (.aload_n 0, 1) := by decide +kernel
theorem dJ5_append_c97b9_54 : decode cJ5_append_c97b9 54 = .ok (.areturn, 1) := by decide +kernel
theorem dJ5_append_c97b9_6 : decode cJ5_append_c97b9 6 = .ok (.iload_n 1, 1) := by decide +kernel
theorem dJ5_append_c97b9_7 : decode cJ5_append_c97b9 7 = .ok (.invokestatic 245, 3) := by decide +kernel
theorem dJ5_append_cf1ce_0 : decode cJ5_append_cf1ce 0 = .ok (.aload_n 1, 1) := by decide +kernel
theorem dJ5_append_cf1ce_1 : decode cJ5_append_cf1ce 1 = .ok (.ifnonnull 8, 3) := by decide +kernel
theorem dJ5_append_cf1ce_10 : decode cJ5_append_cf1ce 10 = .ok (.invokevirtual 32, 3) := by decide +kernel
theorem dJ5_append_cf1ce_13 : decode cJ5_append_cf1ce 13 = .ok (.istore_n 2, 1) := by decide +kernel
theorem dJ5_append_cf1ce_14 : decode cJ5_append_cf1ce 14 = .ok (.aload_n 0, 1) := by decide +kernel
theorem dJ5_append_cf1ce_15 : decode cJ5_append_cf1ce 15 = .ok (.aload_n 0, 1) := by decide +kernel
theorem dJ5_append_cf1ce_16 : decode cJ5_append_cf1ce 16 = .ok (.getfield 79, 3) := by decide +kernel
theorem dJ5_append_cf1ce_19 : decode cJ5_append_cf1ce 19 = .ok (.iload_n 2, 1) := by decide +kernel
theorem dJ5_append_cf1ce_20 : decode cJ5_append_cf1ce 20 = .ok (.iadd, 1) := by decide +kernel
theorem dJ5_append_cf1ce_21 : decode cJ5_append_cf1ce 21 = .ok (.invokevirtual 100, 3) := by decide +kernel
theorem dJ5_append_cf1ce_24 : decode cJ5_append_cf1ce 24 = .ok (.aload_n 0, 1) := by decide +kernel
theorem dJ5_append_cf1ce_25 : decode cJ5_append_cf1ce 25 = .ok (.aload_n 0, 1) := by decide +kernel
theorem dJ5_append_cf1ce_26 : decode cJ5_append_cf1ce 26 = .ok (.getfield 79, 3) := by decide +kernel
theorem dJ5_append_cf1ce_29 : decode cJ5_append_cf1ce 29 = .ok (.aload_n 1, 1) := by decide +kernel
theorem dJ5_append_cf1ce_30 : decode cJ5_append_cf1ce 30 = .ok (.invokevirtual 208, 3) := by decide +kernel
theorem dJ5_append_cf1ce_33 : decode cJ5_append_cf1ce 33 = .ok (.aload_n 0, 1) := by decide +kernel
theorem dJ5_append_cf1ce_34 : decode cJ5_append_cf1ce 34 = .ok (.dup, 1) := by decide +kernel
theorem dJ5_append_cf1ce_35 : decode cJ5_append_cf1ce 35 = .ok (.getfield 79, 3) := by decide +kernel
theorem dJ5_append_cf1ce_38 : decode cJ5_append_cf1ce 38 = .ok (.iload_n 2, 1) := by decide +kernel
theorem dJ5_append_cf1ce_39 : decode cJ5_append_cf1ce 39 = .ok (.iadd, 1) := by decide +kernel
theorem dJ5_append_cf1ce_40 : decode cJ5_append_cf1ce 40 = .ok (.putfield 79, 3) := by decide +kernel
theorem dJ5_append_cf1ce_43 : decode cJ5_append_cf1ce 43 = .ok (.aload_n 0, 1) := by decide +kernel
theorem dJ5_append_cf1ce_44 : decode cJ5_append_cf1ce 44 = .ok (.areturn, 1) := by decide +kernel
theorem dJ5_append_cf1ce_9 : decode cJ5_append_cf1ce 9 = .ok (.aload_n 1, 1) := by decide +kernel
theorem dJ5_setLength_d00df_0 : decode cJ5_setLength_d00df 0 = .ok (.iload_n 1, 1) := by decide +kernel
theorem dJ5_setLength_d00df_1 : decode cJ5_setLength_d00df 1 = .ok (.ifCond .ge 12, 3) := by decide +kernel
theorem dJ5_setLength_d00df_13 : decode cJ5_setLength_d00df 13 = .ok (.aload_n 0, 1) := by decide +kernel
theorem dJ5_setLength_d00df_14 : decode cJ5_setLength_d00df 14 = .ok (.iload_n 1, 1) := by decide +kernel
theorem dJ5_setLength_d00df_15 : decode cJ5_setLength_d00df 15 = .ok (.invokevirtual 100, 3) := by decide +kernel
theorem dJ5_setLength_d00df_18 : decode cJ5_setLength_d00df 18 = .ok (.aload_n 0, 1) := by decide +kernel
theorem dJ5_setLength_d00df_19 : decode cJ5_setLength_d00df 19 = .ok (.getfield 79, 3) := by decide +kernel
theorem dJ5_setLength_d00df_22 : decode cJ5_setLength_d00df 22 = .ok (.iload_n 1, 1) := by decide +kernel
theorem dJ5_setLength_d00df_23 : decode cJ5_setLength_d00df 23 = .ok (.if_icmp .ge 40, 3) := by decide +kernel
theorem dJ5_setLength_d00df_26 : decode cJ5_setLength_d00df 26 = .ok (.aload_n 0, 1) := by decide +kernel
theorem dJ5_setLength_d00df_27 : decode cJ5_setLength_d00df 27 = .ok (.invokevirtual 83, 3) := by decide +kernel
theorem dJ5_setLength_d00df_30 : decode cJ5_setLength_d00df 30 = .ok (.ifCond .eq 18, 3) := by decide +kernel
theorem dJ5_setLength_d00df_63 : decode cJ5_setLength_d00df 63 = .ok (.aload_n 0, 1) := by decide +kernel
theorem dJ5_setLength_d00df_64 : decode cJ5_setLength_d00df 64 = .ok (.getfield 79, 3) := by decide +kernel
theorem dJ5_setLength_d00df_67 : decode cJ5_setLength_d00df 67 = .ok (.iload_n 1, 1) := by decide +kernel
theorem dJ5_setLength_d00df_68 : decode cJ5_setLength_d00df 68 = .ok (.if_icmp .le 8, 3) := by decide +kernel
theorem dJ5_setLength_d00df_71 : decode cJ5_setLength_d00df 71 = .ok (.aload_n 0, 1) := by decide +kernel
theorem dJ5_setLength_d00df_72 : decode cJ5_setLength_d00df 72 = .ok (.iconst 1, 1) := by decide +kernel
theorem dJ5_setLength_d00df_73 : decode cJ5_setLength_d00df 73 = .ok (.putfield 73, 3) := by decide +kernel
theorem dJ5_setLength_d00df_76 : decode cJ5_setLength_d00df 76 = .ok (.aload_n 0, 1) := by decide +kernel
theorem dJ5_setLength_d00df_77 : decode cJ5_setLength_d00df 77 = .ok (.iload_n 1, 1) := by decide +kernel
theorem dJ5_setLength_d00df_78 : decode cJ5_setLength_d00df 78 = .ok (.putfield 79, 3) := by decide +kernel
theorem dJ5_setLength_d00df_81 : decode cJ5_setLength_d00df 81 = .ok (.return_, 1) := by decide +kernel
set_option maxHeartbeats 4000000 in
set_option maxRecDepth 100000 in
theorem c_J5_append_3fe6f (l : Launch) (g : GG) (a0 : Nat → Nat) (v0_a : Nat) (v0_m : Nat) (v0_f : (Nat → Int32)) (v0_l : Int32) (v0_n : Int32) (p1 : Int32) (hne : (m_J5_append_3fe6f (v0_a, v0_m, v0_f, v0_l, v0_n) p1) ≠ none) : Ct l g yJ5_append_3fe6f cJ5_append_3fe6f 2 (Option.some (Jvm.ClassFile.FieldType.object RJ5)) ({ frames := 5, cells := 1, slots := 300, locals := 162 } : Room) [.ref (a0 0), .int p1] (wSBX a0 g v0_a v0_m v0_f v0_l v0_n) (Qrg g (m_J5_append_3fe6f (v0_a, v0_m, v0_f, v0_l, v0_n) p1) (a0 0) (fun u ga => wSBX a0 g ga u.1 u.2.1 v0_l u.2.2)) 1 300 := by
  obtain ⟨out, hf⟩ := ne_ex hne
  have hf0 := hf
  refine Ct.of (own := RJ5) (by decide +kernel) rfl (Nat.le_of_ble_eq_true rfl) ?_
  intro p e s m below meth c hx hb hr hml hown hts hlocks hin hK A H locs hA hP hD hS hE ls hl
  have hl : lv_has ls 2 [(0, .ref (a0 0)), (1, .int p1)] := hl
  unfold m_J5_append_3fe6f at hf
  refine lv_aload_n hx hb dJ5_append_3fe6f_0 rfl (lv_at hl 0 rfl) ?_
  refine lv_aload_n hx hb dJ5_append_3fe6f_1 rfl (lv_at hl 0 rfl) ?_
  refine va_get (D := g.1) (ci := 0) (v := .int v0_n) (C := RJ4) (T := TJ4) (N := 4) hx hb hts layJ4 hown hK.1 hP 0 rfl rfl 3 (by decide) (hts _ kw224) (fun _ h9 => h9) rfl dJ5_append_3fe6f_2 ?_
  refine lv_iconst (v := 1) hx hb dJ5_append_3fe6f_5 (by decide) ?_
  refine lv_iadd hx hb dJ5_append_3fe6f_6 ?_
  refine cVg hP hD hS hA hE (fun hPc hDc hSc => rVp (As := [.int (v0_n + (1 : Int32))]) (rest := []) hx hb hml hown hts hK (c_J5_ensure l g a0 v0_a v0_m v0_f v0_l v0_n (v0_n + (1 : Int32)) (bnd_ne hf)) svP_J5_ensureCapacityInternal_d00df kw978 rfl rfl hPc hDc hSc rfl rfl hl.1 (Nat.le_of_ble_eq_true rfl) dJ5_append_3fe6f_7 ⟨Nat.le_of_ble_eq_true rfl, Nat.le_of_ble_eq_true rfl, rfl, rfl, Nat.le_of_ble_eq_true rfl, Nat.le_of_ble_eq_true rfl⟩) 0 2 rfl rfl (fun x1 ga2 H locs ex1 hP hD hS => ?_)
  have hf := bnd_of hf ex1
  have hP : va_P g.1 vwCl (wSBX a0 g ga2 x1.1 x1.2 v0_l v0_n) H := hP
  have hD : va_D A (wSBX a0 g ga2 x1.1 x1.2 v0_l v0_n) := hD
  refine lv_aload_n hx hb dJ5_append_3fe6f_10 rfl (lv_at hl 0 rfl) ?_
  refine cIp hP hD hS hA hE (fun hPc hDc hSc => rVh (As := []) (rest := []) hx hb hml hown hts hK (c_J5_isLatin1_aae02 l g a0 ga2 x1.1 x1.2 v0_l v0_n (bnd_ne hf)) svH_J5_isLatin1_aae02 kw1006 rfl rfl hPc hDc hSc rfl rfl hl.1 (Nat.le_of_ble_eq_true rfl) dJ5_append_3fe6f_11 ⟨Nat.le_of_ble_eq_true rfl, Nat.le_of_ble_eq_true rfl, rfl, rfl, Nat.le_of_ble_eq_true rfl, Nat.le_of_ble_eq_true rfl⟩) [(0, 2)] rfl rfl rfl (fun x3 H locs ex3 nx3 hP hS => ?_)
  have hf := bnd_of hf ex3
  obtain ⟨r5, er5, hf⟩ := bnd hf
  have K : match r5 with | .inl x6 => (∀ (H : Heap) (locs : List Loc) (ls : Array Slot), va_P g.1 vwCl (wSBX a0 g ga2 x1.1 x6.1 v0_l x6.2) H → va_D A (wSBX a0 g ga2 x1.1 x6.1 v0_l x6.2) → va_S A s.heap H locs → lv_has ls 2 [(0, .ref (a0 0)), (1, .int p1)] → W p l e { frames := 5, cells := 1, slots := 300, locals := 162 } s m [.ref (a0 0), .int p1].toArray below meth c H locs 1 300 (MQ below (Qrg g (m_J5_append_3fe6f (v0_a, v0_m, v0_f, v0_l, v0_n) p1) (a0 0) (fun u ga => wSBX a0 g ga u.1 u.2.1 v0_l u.2.2) A) [.ref (a0 0), .int p1].toArray s 1 300 A) (F0 m 45 ls [])) | .inr v => (m_J5_append_3fe6f (v0_a, v0_m, v0_f, v0_l, v0_n) p1) = some v := by
    rcases r5 with x6 | v
    · intro H locs ls hP hD hS hl
      cases hf
    · exact hf0.trans hf.symm
  have hf := er5
  refine lv_if_eq (tgt := 45) hx hb dJ5_append_3fe6f_14 (by decide) (fun cb => ?_) (fun cb => ?_)
  · have hf := it_t cb hf
    have hq := Option.some.inj hf
    subst hq
    exact K _ _ _ hP hD hS (lv_sub hl [0, 1] rfl)
  have hf := it_f cb hf
  refine lv_iload_n hx hb dJ5_append_3fe6f_17 rfl (lv_at hl 1 rfl) ?_
  refine cIp hP hD hS hA hE (fun hPc hDc hSc => rS (As := [.int p1]) (rest := []) hx hb hml hown hts hK (c_J1_canEncode_fc78d l g p1 (bnd_ne hf)) svS_J1_canEncode_fc78d kw1066 hPc hDc hSc rfl rfl hl.1 (Nat.le_of_ble_eq_true rfl) dJ5_append_3fe6f_18 ⟨Nat.le_of_ble_eq_true rfl, Nat.le_of_ble_eq_true rfl, rfl, rfl, Nat.le_of_ble_eq_true rfl, Nat.le_of_ble_eq_true rfl⟩) [] rfl rfl rfl (fun x7 H locs ex7 nx7 hP hS => ?_)
  have hf := bnd_of hf ex7
  refine lv_if_eq (tgt := 45) hx hb dJ5_append_3fe6f_21 (by decide) (fun cb => ?_) (fun cb => ?_)
  · have hf := it_t cb hf
    have hq := Option.some.inj hf
    subst hq
    exact K _ _ _ hP hD hS (lv_sub hl [0, 1] rfl)
  have hf := it_f cb hf
  refine lv_aload_n hx hb dJ5_append_3fe6f_24 rfl (lv_at hl 0 rfl) ?_
  refine va_get (D := g.1) (ci := 0) (v := .ref ga2) (C := RJ4) (T := TJ4) (N := 4) hx hb hts layJ4 hown hK.1 hP 0 rfl rfl 0 (by decide) (hts _ kw221) (fun _ h9 => h9) rfl dJ5_append_3fe6f_25 ?_
  refine lv_aload_n hx hb dJ5_append_3fe6f_28 rfl (lv_at hl 0 rfl) ?_
  refine lv_dup hx hb dJ5_append_3fe6f_29 rfl ?_
  refine va_get (D := g.1) (ci := 0) (v := .int v0_n) (C := RJ4) (T := TJ4) (N := 4) hx hb hts layJ4 hown hK.1 hP 0 rfl rfl 3 (by decide) (hts _ kw224) (fun _ h9 => h9) rfl dJ5_append_3fe6f_30 ?_
  refine lv_dup_x1 hx hb dJ5_append_3fe6f_33 rfl rfl ?_
  refine lv_iconst (v := 1) hx hb dJ5_append_3fe6f_34 (by decide) ?_
  refine lv_iadd hx hb dJ5_append_3fe6f_35 ?_
  refine va_put (D := g.1) (ci := 0) (v := .int (v0_n + (1 : Int32))) (ty := .int) (C := RJ4) (T := TJ4) (N := 4) hx hb hts layJ4 tyJ4 tyJ4_ok nmJ4 hown hK.1 hP hD hS 0 rfl rfl 3 (by decide) (hts _ kw224) (fun _ h9 => h9) rfl (tyJ4_ok 3 (by decide)) rfl rfl (Nat.le_of_ble_eq_true rfl) dJ5_append_3fe6f_36 (fun H locs hP hD hS => ?_)
  have hP : va_P g.1 vwCl (wSBX a0 g ga2 x1.1 x1.2 v0_l (v0_n + (1 : Int32))) H := hP
  have hD : va_D A (wSBX a0 g ga2 x1.1 x1.2 v0_l (v0_n + (1 : Int32))) := hD
  refine lv_iload_n hx hb dJ5_append_3fe6f_39 rfl (lv_at hl 1 rfl) ?_
  refine lv_i2b (v := p1.toInt8.toInt32) hx hb dJ5_append_3fe6f_40 rfl ?_
  have hi := it_n hf
  have hf := it_t hi hf
  refine va_bast hx hb hK.1 hP hD hS 1 2 rfl rfl (inb_in hi) dJ5_append_3fe6f_41 (fun H locs hP hD hS => ?_)
  have hP : va_P g.1 vwCl (wSBX a0 g ga2 x1.1 (upd x1.2 v0_n.toNatClampNeg (vp_nar .byte p1.toInt8.toInt32)) v0_l (v0_n + (1 : Int32))) H := hP
  have hD : va_D A (wSBX a0 g ga2 x1.1 (upd x1.2 v0_n.toNatClampNeg (vp_nar .byte p1.toInt8.toInt32)) v0_l (v0_n + (1 : Int32))) := hD
  refine lv_goto (tgt := 75) hx hb dJ5_append_3fe6f_42 (by decide) ?_
  refine lv_aload_n hx hb dJ5_append_3fe6f_75 rfl (lv_at hl 0 rfl) ?_
  have hq := Option.some.inj hf
  subst hq
  exact retRg (u := (x1.1, (upd x1.2 v0_n.toNatClampNeg (vp_nar .byte p1.toInt8.toInt32)), (v0_n + (1 : Int32)))) (ga := ga2) (W1 := fun u ga => wSBX a0 g ga u.1 u.2.1 v0_l u.2.2) hx hb hr (Or.inl ⟨_, rfl⟩) hlocks hS hP hD K dJ5_append_3fe6f_76
set_option maxHeartbeats 4000000 in
set_option maxRecDepth 100000 in
theorem c_J4_append_cf468 (l : Launch) (g : GG) (a0 : Nat → Nat) (v0_a : Nat) (v0_m : Nat) (v0_f : (Nat → Int32)) (v0_l : Int32) (v0_n : Int32) (p1 : Int32) (hne : (m_J4_append_cf468 (v0_a, v0_m, v0_f, v0_l, v0_n) p1) ≠ none) : Ct l g yJ4_append_cf468 cJ4_append_cf468 2 (Option.some (Jvm.ClassFile.FieldType.object RJ4)) ({ frames := 6, cells := 1, slots := 300, locals := 183 } : Room) [.ref (a0 0), .int p1] (wSBX a0 g v0_a v0_m v0_f v0_l v0_n) (Qrg g (m_J4_append_cf468 (v0_a, v0_m, v0_f, v0_l, v0_n) p1) (a0 0) (fun u ga => wSBX a0 g ga u.1 u.2.1 v0_l u.2.2)) 1 300 := by
  obtain ⟨out, hf⟩ := ne_ex hne
  have hf0 := hf
  refine Ct.of (own := RJ4) (by decide +kernel) rfl (Nat.le_of_ble_eq_true rfl) ?_
  intro p e s m below meth c hx hb hr hml hown hts hlocks hin hK A H locs hA hP hD hS hE ls hl
  have hl : lv_has ls 2 [(0, .ref (a0 0)), (1, .int p1)] := hl
  unfold m_J4_append_cf468 at hf
  refine lv_aload_n hx hb dJ4_append_cf468_0 rfl (lv_at hl 0 rfl) ?_
  refine lv_iload_n hx hb dJ4_append_cf468_1 rfl (lv_at hl 1 rfl) ?_
  refine cRg hP hD hS hA hE (fun hPc hDc hSc => rSU (As := [.int p1]) (rest := []) hx hb hml hown hts hK (c_J5_append_3fe6f l g a0 v0_a v0_m v0_f v0_l v0_n p1 (bnd_ne hf)) svU_J5_append_3fe6f kw1063 rfl rfl hPc hDc hSc rfl rfl hl.1 (Nat.le_of_ble_eq_true rfl) dJ4_append_cf468_2 ⟨Nat.le_of_ble_eq_true rfl, Nat.le_of_ble_eq_true rfl, rfl, rfl, Nat.le_of_ble_eq_true rfl, Nat.le_of_ble_eq_true rfl⟩) 0 2 rfl rfl (fun x1 ga2 H locs ex1 hP hD hS => ?_)
  have hf := bnd_of hf ex1
  have hP : va_P g.1 vwCl (wSBX a0 g ga2 x1.1 x1.2.1 v0_l x1.2.2) H := hP
  have hD : va_D A (wSBX a0 g ga2 x1.1 x1.2.1 v0_l x1.2.2) := hD
  refine lv_pop hx hb dJ4_append_cf468_5 rfl ?_
  refine lv_aload_n hx hb dJ4_append_cf468_6 rfl (lv_at hl 0 rfl) ?_
  exact retRg (u := (x1.1, x1.2.1, x1.2.2)) (ga := ga2) (W1 := fun u ga => wSBX a0 g ga u.1 u.2.1 v0_l u.2.2) hx hb hr (Or.inl ⟨_, rfl⟩) hlocks hS hP hD (hf0.trans hf.symm) dJ4_append_cf468_7
set_option maxHeartbeats 4000000 in
set_option maxRecDepth 100000 in
theorem c_J5_append_c97b9 (l : Launch) (g : GG) (a0 : Nat → Nat) (v0_a : Nat) (v0_m : Nat) (v0_f : (Nat → Int32)) (v0_l : Int32) (v0_n : Int32) (p1 : Int32) (hne : (m_J5_append_c97b9 (v0_a, v0_m, v0_f, v0_l, v0_n) p1) ≠ none) : Ct l g yJ5_append_c97b9 cJ5_append_c97b9 4 (Option.some (Jvm.ClassFile.FieldType.object RJ5)) ({ frames := 5, cells := 1, slots := 300, locals := 162 } : Room) [.ref (a0 0), .int p1] (wSBX a0 g v0_a v0_m v0_f v0_l v0_n) (Qrg g (m_J5_append_c97b9 (v0_a, v0_m, v0_f, v0_l, v0_n) p1) (a0 0) (fun u ga => wSBX a0 g ga u.1 u.2.1 v0_l u.2.2)) 1 300 := by
  obtain ⟨out, hf⟩ := ne_ex hne
  have hf0 := hf
  refine Ct.of (own := RJ5) (by decide +kernel) rfl (Nat.le_of_ble_eq_true rfl) ?_
  intro p e s m below meth c hx hb hr hml hown hts hlocks hin hK A H locs hA hP hD hS hE ls hl
  have hl : lv_has ls 4 [(0, .ref (a0 0)), (1, .int p1)] := hl
  unfold m_J5_append_c97b9 at hf
  refine lv_aload_n hx hb dJ5_append_c97b9_0 rfl (lv_at hl 0 rfl) ?_
  refine va_get (D := g.1) (ci := 0) (v := .int v0_n) (C := RJ4) (T := TJ4) (N := 4) hx hb hts layJ4 hown hK.1 hP 0 rfl rfl 3 (by decide) (hts _ kw224) (fun _ h9 => h9) rfl dJ5_append_c97b9_1 ?_
  refine lv_istore_n (lv' := [(2, .int v0_n), (0, .ref (a0 0)), (1, .int p1)]) hx hb dJ5_append_c97b9_4 rfl hl (by decide) rfl (fun ls hl => ?_)
  refine lv_iload_n hx hb dJ5_append_c97b9_5 rfl (lv_at hl 0 rfl) ?_
  refine lv_iload_n hx hb dJ5_append_c97b9_6 rfl (lv_at hl 2 rfl) ?_
  refine cIp hP hD hS hA hE (fun hPc hDc hSc => rS (As := [.int p1]) (rest := [.int v0_n]) hx hb hml hown hts hK (c_J6_stringSize_0f7a4 l g p1 (bnd_ne hf)) svS_J6_stringSize_0f7a4 kw1031 hPc hDc hSc rfl rfl hl.1 (Nat.le_of_ble_eq_true rfl) dJ5_append_c97b9_7 ⟨Nat.le_of_ble_eq_true rfl, Nat.le_of_ble_eq_true rfl, rfl, rfl, Nat.le_of_ble_eq_true rfl, Nat.le_of_ble_eq_true rfl⟩) [] rfl rfl rfl (fun x1 H locs ex1 nx1 hP hS => ?_)
  have hf := bnd_of hf ex1
  refine lv_iadd hx hb dJ5_append_c97b9_10 ?_
  refine lv_istore_n (lv' := [(3, .int (v0_n + x1)), (2, .int v0_n), (0, .ref (a0 0)), (1, .int p1)]) hx hb dJ5_append_c97b9_11 rfl hl (by decide) rfl (fun ls hl => ?_)
  refine lv_aload_n hx hb dJ5_append_c97b9_12 rfl (lv_at hl 2 rfl) ?_
  refine lv_iload_n hx hb dJ5_append_c97b9_13 rfl (lv_at hl 0 rfl) ?_
  refine cVg hP hD hS hA hE (fun hPc hDc hSc => rVp (As := [.int (v0_n + x1)]) (rest := []) hx hb hml hown hts hK (c_J5_ensure l g a0 v0_a v0_m v0_f v0_l v0_n (v0_n + x1) (bnd_ne hf)) svP_J5_ensureCapacityInternal_d00df kw978 rfl rfl hPc hDc hSc rfl rfl hl.1 (Nat.le_of_ble_eq_true rfl) dJ5_append_c97b9_14 ⟨Nat.le_of_ble_eq_true rfl, Nat.le_of_ble_eq_true rfl, rfl, rfl, Nat.le_of_ble_eq_true rfl, Nat.le_of_ble_eq_true rfl⟩) 0 2 rfl rfl (fun x2 ga3 H locs ex2 hP hD hS => ?_)
  have hf := bnd_of hf ex2
  have hP : va_P g.1 vwCl (wSBX a0 g ga3 x2.1 x2.2 v0_l v0_n) H := hP
  have hD : va_D A (wSBX a0 g ga3 x2.1 x2.2 v0_l v0_n) := hD
  refine lv_aload_n hx hb dJ5_append_c97b9_17 rfl (lv_at hl 2 rfl) ?_
  refine cIp hP hD hS hA hE (fun hPc hDc hSc => rVh (As := []) (rest := []) hx hb hml hown hts hK (c_J5_isLatin1_aae02 l g a0 ga3 x2.1 x2.2 v0_l v0_n (bnd_ne hf)) svH_J5_isLatin1_aae02 kw1006 rfl rfl hPc hDc hSc rfl rfl hl.1 (Nat.le_of_ble_eq_true rfl) dJ5_append_c97b9_18 ⟨Nat.le_of_ble_eq_true rfl, Nat.le_of_ble_eq_true rfl, rfl, rfl, Nat.le_of_ble_eq_true rfl, Nat.le_of_ble_eq_true rfl⟩) [(0, 2)] rfl rfl rfl (fun x4 H locs ex4 nx4 hP hS => ?_)
  have hf := bnd_of hf ex4
  refine lv_if_eq (tgt := 37) hx hb dJ5_append_c97b9_21 (by decide) (fun cb => ?_) (fun cb => ?_)
  · have hf := it_t cb hf
    cases hf
  have hf := it_f cb hf
  refine lv_iload_n hx hb dJ5_append_c97b9_24 rfl (lv_at hl 3 rfl) ?_
  refine lv_iload_n hx hb dJ5_append_c97b9_25 rfl (lv_at hl 0 rfl) ?_
  refine lv_aload_n hx hb dJ5_append_c97b9_26 rfl (lv_at hl 2 rfl) ?_
  refine va_get (D := g.1) (ci := 0) (v := .ref ga3) (C := RJ4) (T := TJ4) (N := 4) hx hb hts layJ4 hown hK.1 hP 0 rfl rfl 0 (by decide) (hts _ kw221) (fun _ h9 => h9) rfl dJ5_append_c97b9_27 ?_
  refine cI hP hD hS hA hE (fun hPc hDc hSc => rS (As := [.int p1, .int (v0_n + x1), .ref ga3]) (rest := []) hx hb hml hown hts hK (c_J6_getChars_ba4f3 l g (fun _ => ga3) x2.1 x2.2 p1 (v0_n + x1) (bnd_ne hf)) svS_J6_getChars_ba4f3 kw1034 hPc hDc hSc rfl rfl hl.1 (Nat.le_of_ble_eq_true rfl) dJ5_append_c97b9_30 ⟨Nat.le_of_ble_eq_true rfl, Nat.le_of_ble_eq_true rfl, rfl, rfl, Nat.le_of_ble_eq_true rfl, Nat.le_of_ble_eq_true rfl⟩) [(1, 1)] rfl rfl rfl (fun _ => rfl) (fun x5 H locs ex5 nx5 hP hD hS => ?_)
  have hf := bnd_of hf ex5
  have hP : va_P g.1 vwCl (wSBX a0 g ga3 x2.1 x5.2 v0_l v0_n) H := hP
  have hD : va_D A (wSBX a0 g ga3 x2.1 x5.2 v0_l v0_n) := hD
  refine lv_pop hx hb dJ5_append_c97b9_33 rfl ?_
  refine lv_goto (tgt := 48) hx hb dJ5_append_c97b9_34 (by decide) ?_
  refine lv_aload_n hx hb dJ5_append_c97b9_48 rfl (lv_at hl 2 rfl) ?_
  refine lv_iload_n hx hb dJ5_append_c97b9_49 rfl (lv_at hl 0 rfl) ?_
  refine va_put (D := g.1) (ci := 0) (v := .int (v0_n + x1)) (ty := .int) (C := RJ4) (T := TJ4) (N := 4) hx hb hts layJ4 tyJ4 tyJ4_ok nmJ4 hown hK.1 hP hD hS 0 rfl rfl 3 (by decide) (hts _ kw224) (fun _ h9 => h9) rfl (tyJ4_ok 3 (by decide)) rfl rfl (Nat.le_of_ble_eq_true rfl) dJ5_append_c97b9_50 (fun H locs hP hD hS => ?_)
  have hP : va_P g.1 vwCl (wSBX a0 g ga3 x2.1 x5.2 v0_l (v0_n + x1)) H := hP
  have hD : va_D A (wSBX a0 g ga3 x2.1 x5.2 v0_l (v0_n + x1)) := hD
  refine lv_aload_n hx hb dJ5_append_c97b9_53 rfl (lv_at hl 2 rfl) ?_
  exact retRg (u := (x2.1, x5.2, (v0_n + x1))) (ga := ga3) (W1 := fun u ga => wSBX a0 g ga u.1 u.2.1 v0_l u.2.2) hx hb hr (Or.inl ⟨_, rfl⟩) hlocks hS hP hD (hf0.trans hf.symm) dJ5_append_c97b9_54
set_option maxHeartbeats 4000000 in
set_option maxRecDepth 100000 in
theorem c_J4_append_bf812 (l : Launch) (g : GG) (a0 : Nat → Nat) (v0_a : Nat) (v0_m : Nat) (v0_f : (Nat → Int32)) (v0_l : Int32) (v0_n : Int32) (p1 : Int32) (hne : (m_J4_append_bf812 (v0_a, v0_m, v0_f, v0_l, v0_n) p1) ≠ none) : Ct l g yJ4_append_bf812 cJ4_append_bf812 2 (Option.some (Jvm.ClassFile.FieldType.object RJ4)) ({ frames := 6, cells := 1, slots := 300, locals := 185 } : Room) [.ref (a0 0), .int p1] (wSBX a0 g v0_a v0_m v0_f v0_l v0_n) (Qrg g (m_J4_append_bf812 (v0_a, v0_m, v0_f, v0_l, v0_n) p1) (a0 0) (fun u ga => wSBX a0 g ga u.1 u.2.1 v0_l u.2.2)) 1 300 := by
  obtain ⟨out, hf⟩ := ne_ex hne
  have hf0 := hf
  refine Ct.of (own := RJ4) (by decide +kernel) rfl (Nat.le_of_ble_eq_true rfl) ?_
  intro p e s m below meth c hx hb hr hml hown hts hlocks hin hK A H locs hA hP hD hS hE ls hl
  have hl : lv_has ls 2 [(0, .ref (a0 0)), (1, .int p1)] := hl
  unfold m_J4_append_bf812 at hf
  refine lv_aload_n hx hb dJ4_append_bf812_0 rfl (lv_at hl 0 rfl) ?_
  refine lv_iload_n hx hb dJ4_append_bf812_1 rfl (lv_at hl 1 rfl) ?_
  refine cRg hP hD hS hA hE (fun hPc hDc hSc => rSU (As := [.int p1]) (rest := []) hx hb hml hown hts hK (c_J5_append_c97b9 l g a0 v0_a v0_m v0_f v0_l v0_n p1 (bnd_ne hf)) svU_J5_append_c97b9 kw1028 rfl rfl hPc hDc hSc rfl rfl hl.1 (Nat.le_of_ble_eq_true rfl) dJ4_append_bf812_2 ⟨Nat.le_of_ble_eq_true rfl, Nat.le_of_ble_eq_true rfl, rfl, rfl, Nat.le_of_ble_eq_true rfl, Nat.le_of_ble_eq_true rfl⟩) 0 2 rfl rfl (fun x1 ga2 H locs ex1 hP hD hS => ?_)
  have hf := bnd_of hf ex1
  have hP : va_P g.1 vwCl (wSBX a0 g ga2 x1.1 x1.2.1 v0_l x1.2.2) H := hP
  have hD : va_D A (wSBX a0 g ga2 x1.1 x1.2.1 v0_l x1.2.2) := hD
  refine lv_pop hx hb dJ4_append_bf812_5 rfl ?_
  refine lv_aload_n hx hb dJ4_append_bf812_6 rfl (lv_at hl 0 rfl) ?_
  exact retRg (u := (x1.1, x1.2.1, x1.2.2)) (ga := ga2) (W1 := fun u ga => wSBX a0 g ga u.1 u.2.1 v0_l u.2.2) hx hb hr (Or.inl ⟨_, rfl⟩) hlocks hS hP hD (hf0.trans hf.symm) dJ4_append_bf812_7
set_option maxHeartbeats 4000000 in
set_option maxRecDepth 100000 in
theorem c_J5_append_cf1ce (l : Launch) (g : GG) (a0 : Nat → Nat) (v0_a : Nat) (v0_m : Nat) (v0_f : (Nat → Int32)) (v0_l : Int32) (v0_n : Int32) (p1 : Nat) (hne : (m_J5_append_cf1ce (v0_a, v0_m, v0_f, v0_l, v0_n) p1) ≠ none) : Ct l g yJ5_append_cf1ce cJ5_append_cf1ce 3 (Option.some (Jvm.ClassFile.FieldType.object RJ5)) ({ frames := 5, cells := 1, slots := 300, locals := 162 } : Room) [.ref (a0 0), .ref (adK g p1)] (wSBX a0 g v0_a v0_m v0_f v0_l v0_n) (Qrg g (m_J5_append_cf1ce (v0_a, v0_m, v0_f, v0_l, v0_n) p1) (a0 0) (fun u ga => wSBX a0 g ga u.1 u.2.1 v0_l u.2.2)) 1 300 := by
  obtain ⟨out, hf⟩ := ne_ex hne
  have hf0 := hf
  refine Ct.of (own := RJ5) (by decide +kernel) rfl (Nat.le_of_ble_eq_true rfl) ?_
  intro p e s m below meth c hx hb hr hml hown hts hlocks hin hK A H locs hA hP hD hS hE ls hl
  have hl : lv_has ls 3 [(0, .ref (a0 0)), (1, .ref (adK g p1))] := hl
  unfold m_J5_append_cf1ce at hf
  refine lv_aload_n hx hb dJ5_append_cf1ce_0 rfl (lv_at hl 1 rfl) ?_
  refine lv_ifnonnull (tgt := 9) hx hb dJ5_append_cf1ce_1 (by decide) ?_
  refine lv_aload_n hx hb dJ5_append_cf1ce_9 rfl (lv_at hl 1 rfl) ?_
  have hT9 := it_n hf
  have hf := it_t hT9 hf
  refine cIp hP hD hS hA hE (fun hPc hDc hSc => rVs (As := []) (rest := []) hx hb hml hown hts hK (c_J0_length_8abf5 l g p1 (bnd_ne hf)) svV_J0_length_8abf5 kw1109 hE hS hT9 hPc hDc hSc rfl rfl hl.1 (Nat.le_of_ble_eq_true rfl) dJ5_append_cf1ce_10 ⟨Nat.le_of_ble_eq_true rfl, Nat.le_of_ble_eq_true rfl, rfl, rfl, Nat.le_of_ble_eq_true rfl, Nat.le_of_ble_eq_true rfl⟩) [] rfl rfl rfl (fun x1 H locs ex1 nx1 hP hS => ?_)
  have hf := bnd_of hf ex1
  refine lv_istore_n (lv' := [(2, .int x1), (0, .ref (a0 0)), (1, .ref (adK g p1))]) hx hb dJ5_append_cf1ce_13 rfl hl (by decide) rfl (fun ls hl => ?_)
  refine lv_aload_n hx hb dJ5_append_cf1ce_14 rfl (lv_at hl 1 rfl) ?_
  refine lv_aload_n hx hb dJ5_append_cf1ce_15 rfl (lv_at hl 1 rfl) ?_
  refine va_get (D := g.1) (ci := 0) (v := .int v0_n) (C := RJ4) (T := TJ4) (N := 4) hx hb hts layJ4 hown hK.1 hP 0 rfl rfl 3 (by decide) (hts _ kw224) (fun _ h9 => h9) rfl dJ5_append_cf1ce_16 ?_
  refine lv_iload_n hx hb dJ5_append_cf1ce_19 rfl (lv_at hl 0 rfl) ?_
  refine lv_iadd hx hb dJ5_append_cf1ce_20 ?_
  refine cVg hP hD hS hA hE (fun hPc hDc hSc => rVp (As := [.int (v0_n + x1)]) (rest := []) hx hb hml hown hts hK (c_J5_ensure l g a0 v0_a v0_m v0_f v0_l v0_n (v0_n + x1) (bnd_ne hf)) svP_J5_ensureCapacityInternal_d00df kw978 rfl rfl hPc hDc hSc rfl rfl hl.1 (Nat.le_of_ble_eq_true rfl) dJ5_append_cf1ce_21 ⟨Nat.le_of_ble_eq_true rfl, Nat.le_of_ble_eq_true rfl, rfl, rfl, Nat.le_of_ble_eq_true rfl, Nat.le_of_ble_eq_true rfl⟩) 0 2 rfl rfl (fun x2 ga3 H locs ex2 hP hD hS => ?_)
  have hf := bnd_of hf ex2
  have hP : va_P g.1 vwCl (wSBX a0 g ga3 x2.1 x2.2 v0_l v0_n) H := hP
  have hD : va_D A (wSBX a0 g ga3 x2.1 x2.2 v0_l v0_n) := hD
  refine lv_aload_n hx hb dJ5_append_cf1ce_24 rfl (lv_at hl 1 rfl) ?_
  refine lv_aload_n hx hb dJ5_append_cf1ce_25 rfl (lv_at hl 1 rfl) ?_
  refine va_get (D := g.1) (ci := 0) (v := .int v0_n) (C := RJ4) (T := TJ4) (N := 4) hx hb hts layJ4 hown hK.1 hP 0 rfl rfl 3 (by decide) (hts _ kw224) (fun _ h9 => h9) rfl dJ5_append_cf1ce_26 ?_
  refine lv_aload_n hx hb dJ5_append_cf1ce_29 rfl (lv_at hl 2 rfl) ?_
  refine cV hP hD hS hA hE (fun hPc hDc hSc => rVp (As := [.int v0_n, .ref (adK g p1)]) (rest := []) hx hb hml hown hts hK (c_J5_putStringAt_47b60 l g a0 ga3 x2.1 x2.2 v0_l v0_n v0_n p1 (bnd_ne hf)) svP_J5_putStringAt_47b60 kw1110 rfl rfl hPc hDc hSc rfl rfl hl.1 (Nat.le_of_ble_eq_true rfl) dJ5_append_cf1ce_30 ⟨Nat.le_of_ble_eq_true rfl, Nat.le_of_ble_eq_true rfl, rfl, rfl, Nat.le_of_ble_eq_true rfl, Nat.le_of_ble_eq_true rfl⟩) [(0, 2)] rfl rfl rfl (fun _ => rfl) (fun x4 H locs ex4 hP hD hS => ?_)
  have hf := bnd_of hf ex4
  have hP : va_P g.1 vwCl (wSBX a0 g ga3 x2.1 x4 v0_l v0_n) H := hP
  have hD : va_D A (wSBX a0 g ga3 x2.1 x4 v0_l v0_n) := hD
  refine lv_aload_n hx hb dJ5_append_cf1ce_33 rfl (lv_at hl 1 rfl) ?_
  refine lv_dup hx hb dJ5_append_cf1ce_34 rfl ?_
  refine va_get (D := g.1) (ci := 0) (v := .int v0_n) (C := RJ4) (T := TJ4) (N := 4) hx hb hts layJ4 hown hK.1 hP 0 rfl rfl 3 (by decide) (hts _ kw224) (fun _ h9 => h9) rfl dJ5_append_cf1ce_35 ?_
  refine lv_iload_n hx hb dJ5_append_cf1ce_38 rfl (lv_at hl 0 rfl) ?_
  refine lv_iadd hx hb dJ5_append_cf1ce_39 ?_
  refine va_put (D := g.1) (ci := 0) (v := .int (v0_n + x1)) (ty := .int) (C := RJ4) (T := TJ4) (N := 4) hx hb hts layJ4 tyJ4 tyJ4_ok nmJ4 hown hK.1 hP hD hS 0 rfl rfl 3 (by decide) (hts _ kw224) (fun _ h9 => h9) rfl (tyJ4_ok 3 (by decide)) rfl rfl (Nat.le_of_ble_eq_true rfl) dJ5_append_cf1ce_40 (fun H locs hP hD hS => ?_)
  have hP : va_P g.1 vwCl (wSBX a0 g ga3 x2.1 x4 v0_l (v0_n + x1)) H := hP
  have hD : va_D A (wSBX a0 g ga3 x2.1 x4 v0_l (v0_n + x1)) := hD
  refine lv_aload_n hx hb dJ5_append_cf1ce_43 rfl (lv_at hl 1 rfl) ?_
  exact retRg (u := (x2.1, x4, (v0_n + x1))) (ga := ga3) (W1 := fun u ga => wSBX a0 g ga u.1 u.2.1 v0_l u.2.2) hx hb hr (Or.inl ⟨_, rfl⟩) hlocks hS hP hD (hf0.trans hf.symm) dJ5_append_cf1ce_44
set_option maxHeartbeats 4000000 in
set_option maxRecDepth 100000 in
theorem c_J4_append_15ec4 (l : Launch) (g : GG) (a0 : Nat → Nat) (v0_a : Nat) (v0_m : Nat) (v0_f : (Nat → Int32)) (v0_l : Int32) (v0_n : Int32) (p1 : Nat) (hne : (m_J4_append_15ec4 (v0_a, v0_m, v0_f, v0_l, v0_n) p1) ≠ none) : Ct l g yJ4_append_15ec4 cJ4_append_15ec4 2 (Option.some (Jvm.ClassFile.FieldType.object RJ4)) ({ frames := 6, cells := 1, slots := 300, locals := 184 } : Room) [.ref (a0 0), .ref (adK g p1)] (wSBX a0 g v0_a v0_m v0_f v0_l v0_n) (Qrg g (m_J4_append_15ec4 (v0_a, v0_m, v0_f, v0_l, v0_n) p1) (a0 0) (fun u ga => wSBX a0 g ga u.1 u.2.1 v0_l u.2.2)) 1 300 := by
  obtain ⟨out, hf⟩ := ne_ex hne
  have hf0 := hf
  refine Ct.of (own := RJ4) (by decide +kernel) rfl (Nat.le_of_ble_eq_true rfl) ?_
  intro p e s m below meth c hx hb hr hml hown hts hlocks hin hK A H locs hA hP hD hS hE ls hl
  have hl : lv_has ls 2 [(0, .ref (a0 0)), (1, .ref (adK g p1))] := hl
  unfold m_J4_append_15ec4 at hf
  refine lv_aload_n hx hb dJ4_append_15ec4_0 rfl (lv_at hl 0 rfl) ?_
  refine lv_aload_n hx hb dJ4_append_15ec4_1 rfl (lv_at hl 1 rfl) ?_
  refine cRg hP hD hS hA hE (fun hPc hDc hSc => rSU (As := [.ref (adK g p1)]) (rest := []) hx hb hml hown hts hK (c_J5_append_cf1ce l g a0 v0_a v0_m v0_f v0_l v0_n p1 (bnd_ne hf)) svU_J5_append_cf1ce kw1100 rfl rfl hPc hDc hSc rfl rfl hl.1 (Nat.le_of_ble_eq_true rfl) dJ4_append_15ec4_2 ⟨Nat.le_of_ble_eq_true rfl, Nat.le_of_ble_eq_true rfl, rfl, rfl, Nat.le_of_ble_eq_true rfl, Nat.le_of_ble_eq_true rfl⟩) 0 2 rfl rfl (fun x1 ga2 H locs ex1 hP hD hS => ?_)
  have hf := bnd_of hf ex1
  have hP : va_P g.1 vwCl (wSBX a0 g ga2 x1.1 x1.2.1 v0_l x1.2.2) H := hP
  have hD : va_D A (wSBX a0 g ga2 x1.1 x1.2.1 v0_l x1.2.2) := hD
  refine lv_pop hx hb dJ4_append_15ec4_5 rfl ?_
  refine lv_aload_n hx hb dJ4_append_15ec4_6 rfl (lv_at hl 0 rfl) ?_
  exact retRg (u := (x1.1, x1.2.1, x1.2.2)) (ga := ga2) (W1 := fun u ga => wSBX a0 g ga u.1 u.2.1 v0_l u.2.2) hx hb hr (Or.inl ⟨_, rfl⟩) hlocks hS hP hD (hf0.trans hf.symm) dJ4_append_15ec4_7
set_option maxHeartbeats 4000000 in
set_option maxRecDepth 100000 in
theorem c_J5_setLength_d00df (l : Launch) (g : GG) (a0 : Nat → Nat) (v0_a : Nat) (v0_m : Nat) (v0_f : (Nat → Int32)) (v0_l : Int32) (v0_n : Int32) (p1 : Int32) (hne : (m_J5_setLength_d00df (v0_a, v0_m, v0_f, v0_l, v0_n) p1) ≠ none) : Ct l g yJ5_setLength_d00df cJ5_setLength_d00df 2 none ({ frames := 5, cells := 1, slots := 300, locals := 162 } : Room) [.ref (a0 0), .int p1] (wSBX a0 g v0_a v0_m v0_f v0_l v0_n) (Qvg g (m_J5_setLength_d00df (v0_a, v0_m, v0_f, v0_l, v0_n) p1) (fun u ga => wSBX a0 g ga u.1 u.2.1 u.2.2.1 u.2.2.2)) 1 300 := by
  obtain ⟨out, hf⟩ := ne_ex hne
  have hf0 := hf
  refine Ct.of (own := RJ5) (by decide +kernel) rfl (Nat.le_of_ble_eq_true rfl) ?_
  intro p e s m below meth c hx hb hr hml hown hts hlocks hin hK A H locs hA hP hD hS hE ls hl
  have hl : lv_has ls 2 [(0, .ref (a0 0)), (1, .int p1)] := hl
  unfold m_J5_setLength_d00df at hf
  refine lv_iload_n hx hb dJ5_setLength_d00df_0 rfl (lv_at hl 1 rfl) ?_
  refine lv_if_ge (tgt := 13) hx hb dJ5_setLength_d00df_1 (by decide) (fun cb => ?_) (fun cb => ?_)
  · have hf := it_t cb hf
    refine lv_aload_n hx hb dJ5_setLength_d00df_13 rfl (lv_at hl 0 rfl) ?_
    refine lv_iload_n hx hb dJ5_setLength_d00df_14 rfl (lv_at hl 1 rfl) ?_
    refine cVg hP hD hS hA hE (fun hPc hDc hSc => rVp (As := [.int p1]) (rest := []) hx hb hml hown hts hK (c_J5_ensure l g a0 v0_a v0_m v0_f v0_l v0_n p1 (bnd_ne hf)) svP_J5_ensureCapacityInternal_d00df kw978 rfl rfl hPc hDc hSc rfl rfl hl.1 (Nat.le_of_ble_eq_true rfl) dJ5_setLength_d00df_15 ⟨Nat.le_of_ble_eq_true rfl, Nat.le_of_ble_eq_true rfl, rfl, rfl, Nat.le_of_ble_eq_true rfl, Nat.le_of_ble_eq_true rfl⟩) 0 2 rfl rfl (fun x1 ga2 H locs ex1 hP hD hS => ?_)
    have hf := bnd_of hf ex1
    have hP : va_P g.1 vwCl (wSBX a0 g ga2 x1.1 x1.2 v0_l v0_n) H := hP
    have hD : va_D A (wSBX a0 g ga2 x1.1 x1.2 v0_l v0_n) := hD
    refine lv_aload_n hx hb dJ5_setLength_d00df_18 rfl (lv_at hl 0 rfl) ?_
    refine va_get (D := g.1) (ci := 0) (v := .int v0_n) (C := RJ4) (T := TJ4) (N := 4) hx hb hts layJ4 hown hK.1 hP 0 rfl rfl 3 (by decide) (hts _ kw224) (fun _ h9 => h9) rfl dJ5_setLength_d00df_19 ?_
    refine lv_iload_n hx hb dJ5_setLength_d00df_22 rfl (lv_at hl 1 rfl) ?_
    refine lv_icmp_ge (tgt := 63) hx hb dJ5_setLength_d00df_23 (by decide) (fun cb => ?_) (fun cb => ?_)
    · have hf := it_t cb hf
      refine lv_aload_n hx hb dJ5_setLength_d00df_63 rfl (lv_at hl 0 rfl) ?_
      refine va_get (D := g.1) (ci := 0) (v := .int v0_n) (C := RJ4) (T := TJ4) (N := 4) hx hb hts layJ4 hown hK.1 hP 0 rfl rfl 3 (by decide) (hts _ kw224) (fun _ h9 => h9) rfl dJ5_setLength_d00df_64 ?_
      refine lv_iload_n hx hb dJ5_setLength_d00df_67 rfl (lv_at hl 1 rfl) ?_
      refine lv_icmp_le (tgt := 76) hx hb dJ5_setLength_d00df_68 (by decide) (fun cb => ?_) (fun cb => ?_)
      · have hf := it_t cb hf
        refine lv_aload_n hx hb dJ5_setLength_d00df_76 rfl (lv_at hl 0 rfl) ?_
        refine lv_iload_n hx hb dJ5_setLength_d00df_77 rfl (lv_at hl 1 rfl) ?_
        refine va_put (D := g.1) (ci := 0) (v := .int p1) (ty := .int) (C := RJ4) (T := TJ4) (N := 4) hx hb hts layJ4 tyJ4 tyJ4_ok nmJ4 hown hK.1 hP hD hS 0 rfl rfl 3 (by decide) (hts _ kw224) (fun _ h9 => h9) rfl (tyJ4_ok 3 (by decide)) rfl rfl (Nat.le_of_ble_eq_true rfl) dJ5_setLength_d00df_78 (fun H locs hP hD hS => ?_)
        have hP : va_P g.1 vwCl (wSBX a0 g ga2 x1.1 x1.2 v0_l p1) H := hP
        have hD : va_D A (wSBX a0 g ga2 x1.1 x1.2 v0_l p1) := hD
        exact retVg (u := (x1.1, x1.2, v0_l, p1)) (ga := ga2) (W1 := fun u ga => wSBX a0 g ga u.1 u.2.1 u.2.2.1 u.2.2.2) hx hb hr hlocks hS hP hD (hf0.trans hf.symm) dJ5_setLength_d00df_81
      have hf := it_f cb hf
      refine lv_aload_n hx hb dJ5_setLength_d00df_71 rfl (lv_at hl 0 rfl) ?_
      refine lv_iconst (v := 1) hx hb dJ5_setLength_d00df_72 (by decide) ?_
      refine va_put (D := g.1) (ci := 0) (v := .int (1 : Int32)) (ty := .boolean) (C := RJ4) (T := TJ4) (N := 4) hx hb hts layJ4 tyJ4 tyJ4_ok nmJ4 hown hK.1 hP hD hS 0 rfl rfl 2 (by decide) (hts _ kw223) (fun _ h9 => h9) rfl (tyJ4_ok 2 (by decide)) rfl rfl (Nat.le_of_ble_eq_true rfl) dJ5_setLength_d00df_73 (fun H locs hP hD hS => ?_)
      have hP : va_P g.1 vwCl (wSBX a0 g ga2 x1.1 x1.2 (1 : Int32) v0_n) H := hP
      have hD : va_D A (wSBX a0 g ga2 x1.1 x1.2 (1 : Int32) v0_n) := hD
      refine lv_aload_n hx hb dJ5_setLength_d00df_76 rfl (lv_at hl 0 rfl) ?_
      refine lv_iload_n hx hb dJ5_setLength_d00df_77 rfl (lv_at hl 1 rfl) ?_
      refine va_put (D := g.1) (ci := 0) (v := .int p1) (ty := .int) (C := RJ4) (T := TJ4) (N := 4) hx hb hts layJ4 tyJ4 tyJ4_ok nmJ4 hown hK.1 hP hD hS 0 rfl rfl 3 (by decide) (hts _ kw224) (fun _ h9 => h9) rfl (tyJ4_ok 3 (by decide)) rfl rfl (Nat.le_of_ble_eq_true rfl) dJ5_setLength_d00df_78 (fun H locs hP hD hS => ?_)
      have hP : va_P g.1 vwCl (wSBX a0 g ga2 x1.1 x1.2 (1 : Int32) p1) H := hP
      have hD : va_D A (wSBX a0 g ga2 x1.1 x1.2 (1 : Int32) p1) := hD
      exact retVg (u := (x1.1, x1.2, (1 : Int32), p1)) (ga := ga2) (W1 := fun u ga => wSBX a0 g ga u.1 u.2.1 u.2.2.1 u.2.2.2) hx hb hr hlocks hS hP hD (hf0.trans hf.symm) dJ5_setLength_d00df_81
    have hf := it_f cb hf
    refine lv_aload_n hx hb dJ5_setLength_d00df_26 rfl (lv_at hl 0 rfl) ?_
    refine cIp hP hD hS hA hE (fun hPc hDc hSc => rVh (As := []) (rest := []) hx hb hml hown hts hK (c_J5_isLatin1_aae02 l g a0 ga2 x1.1 x1.2 v0_l v0_n (bnd_ne hf)) svH_J5_isLatin1_aae02 kw1006 rfl rfl hPc hDc hSc rfl rfl hl.1 (Nat.le_of_ble_eq_true rfl) dJ5_setLength_d00df_27 ⟨Nat.le_of_ble_eq_true rfl, Nat.le_of_ble_eq_true rfl, rfl, rfl, Nat.le_of_ble_eq_true rfl, Nat.le_of_ble_eq_true rfl⟩) [(0, 2)] rfl rfl rfl (fun x3 H locs ex3 nx3 hP hS => ?_)
    have hf := bnd_of hf ex3
    refine lv_if_eq (tgt := 48) hx hb dJ5_setLength_d00df_30 (by decide) (fun cb => ?_) (fun cb => ?_)
    · have hf := it_t cb hf
      cases hf
    have hf := it_f cb hf
    cases hf
  have hf := it_f cb hf
  cases hf
set_option maxHeartbeats 4000000 in
set_option maxRecDepth 100000 in
theorem c_J4_setLength_d00df (l : Launch) (g : GG) (a0 : Nat → Nat) (v0_a : Nat) (v0_m : Nat) (v0_f : (Nat → Int32)) (v0_l : Int32) (v0_n : Int32) (p1 : Int32) (hne : (m_J4_setLength_d00df (v0_a, v0_m, v0_f, v0_l, v0_n) p1) ≠ none) : Ct l g yJ4_setLength_d00df cJ4_setLength_d00df 2 none ({ frames := 6, cells := 1, slots := 300, locals := 183 } : Room) [.ref (a0 0), .int p1] (wSBX a0 g v0_a v0_m v0_f v0_l v0_n) (Qvg g (m_J4_setLength_d00df (v0_a, v0_m, v0_f, v0_l, v0_n) p1) (fun u ga => wSBX a0 g ga u.1 u.2.1 u.2.2.1 u.2.2.2)) 1 300 := by
  obtain ⟨out, hf⟩ := ne_ex hne
  have hf0 := hf
  refine Ct.of (own := RJ4) (by decide +kernel) rfl (Nat.le_of_ble_eq_true rfl) ?_
  intro p e s m below meth c hx hb hr hml hown hts hlocks hin hK A H locs hA hP hD hS hE ls hl
  have hl : lv_has ls 2 [(0, .ref (a0 0)), (1, .int p1)] := hl
  unfold m_J4_setLength_d00df at hf
  refine lv_aload_n hx hb dJ4_setLength_d00df_0 rfl (lv_at hl 0 rfl) ?_
  refine lv_iload_n hx hb dJ4_setLength_d00df_1 rfl (lv_at hl 1 rfl) ?_
  refine cVg hP hD hS hA hE (fun hPc hDc hSc => rSU (As := [.int p1]) (rest := []) hx hb hml hown hts hK (c_J5_setLength_d00df l g a0 v0_a v0_m v0_f v0_l v0_n p1 (bnd_ne hf)) svU_J5_setLength_d00df kw975 rfl rfl hPc hDc hSc rfl rfl hl.1 (Nat.le_of_ble_eq_true rfl) dJ4_setLength_d00df_2 ⟨Nat.le_of_ble_eq_true rfl, Nat.le_of_ble_eq_true rfl, rfl, rfl, Nat.le_of_ble_eq_true rfl, Nat.le_of_ble_eq_true rfl⟩) 0 2 rfl rfl (fun x1 ga2 H locs ex1 hP hD hS => ?_)
  have hf := bnd_of hf ex1
  have hP : va_P g.1 vwCl (wSBX a0 g ga2 x1.1 x1.2.1 x1.2.2.1 x1.2.2.2) H := hP
  have hD : va_D A (wSBX a0 g ga2 x1.1 x1.2.1 x1.2.2.1 x1.2.2.2) := hD
  exact retVg (u := (x1.1, x1.2.1, x1.2.2.1, x1.2.2.2)) (ga := ga2) (W1 := fun u ga => wSBX a0 g ga u.1 u.2.1 u.2.2.1 u.2.2.2) hx hb hr hlocks hS hP hD (hf0.trans hf.symm) dJ4_setLength_d00df_5
