-- texts: the builder holds k signs
def TXc (m : Nat) (f : Nat → Int32) (n : Int32) (k : Nat) (c : Nat → Nat) : Prop := n = nI k ∧ k ≤ 60 ∧ k ≤ m ∧ 16 ≤ m ∧ m ≤ 200 ∧ fitAll m f = true ∧ ∀ i, i < k → f i = nI (c i) ∧ c i < 128
theorem fitB : ∀ a, a < 128 → fits .byte (.int (nI a)) = true := by decide +kernel
theorem narA : ∀ a, a < 128 → (nI a).toInt8.toInt32.toInt8.toInt32 = nI a ∧ (nI a).toInt8.toInt32 = nI a := by decide +kernel
theorem shl0 : ∀ a, a < 300 → nI a <<< ((0 : Int32) &&& 31) = nI a ∧ nI a >>> ((0 : Int32) &&& 31) = nI a := by decide +kernel
def ncap (m q : Nat) : Nat := if 2 * m + 2 < q then q else 2 * m + 2
theorem newLen : ∀ m, m < 60 → ∀ q, q < 61 → m < q → m_J8_newLength_cabcc (nI m) ((nI q <<< ((0 : Int32) &&& 31)) - nI m) (nI m + ((2 : Int32) <<< ((0 : Int32) &&& 31))) = some (nI (ncap m q)) := by decide +kernel
theorem ens_if {m q : Nat} (hm : m ≤ 200) (hq : q ≤ 60) : (nI q - (nI m >>> ((0 : Int32) &&& 31)) ≤ 0) ↔ q ≤ m := by
  rw [(shl0 m (by omega)).2, ← zI_nat, ← zI_nat, zI_sub, show (0 : Int32) = zI 0 from rfl, zI_le (by omega) (by omega) (by omega) (by omega)]
  omega
theorem ens_tx {b : TSB} {k : Nat} {c : Nat → Nat} (h : TXc (pSB_m b) (pSB_f b) (pSB_n b) k c) {q : Nat} (hq : q ≤ 60) : ∃ m' f', m_J5_ensure b (nI q) = some (m', f') ∧ q ≤ m' ∧ TXc m' f' (pSB_n b) k c := by
  obtain ⟨e1, e2, e3, e4, e5, e6, e7⟩ := h
  by_cases qm : q ≤ pSB_m b
  · refine ⟨pSB_m b, pSB_f b, ?_, qm, e1, e2, e3, e4, e5, e6, e7⟩
    unfold m_J5_ensure
    rw [if_pos ((ens_if e5 hq).2 qm)]
  · have hn : ncap (pSB_m b) q ≤ 122 ∧ q ≤ ncap (pSB_m b) q ∧ pSB_m b < ncap (pSB_m b) q := by unfold ncap; split <;> omega
    have hcap : m_J5_newCapacity_0f7a4 b (nI q) = some (nI (ncap (pSB_m b) q)) := by
      unfold m_J5_newCapacity_0f7a4
      rw [newLen _ (by omega) _ (by omega) (by omega), Option.bind_some, if_neg (fun e => by have := congrArg Int32.toInt e; rw [nI_toInt (by omega), show (2147483647 : Int32).toInt = 2147483647 from rfl] at this; omega), (shl0 _ (by omega)).2]
    refine ⟨ncap (pSB_m b) q, va_cpy (pSB_f b) (fun _ => (0 : Int32)) 0 0 (pSB_m b), ?_, by omega, e1, e2, by omega, by omega, by omega, ?_, ?_⟩
    · unfold m_J5_ensure
      rw [if_neg (fun e => qm ((ens_if e5 hq).1 e)), hcap, Option.bind_some, nI_clamp (by omega), if_pos ⟨(shl0 _ (by omega)).1, hn.2.2, by omega, e6⟩]
    · refine List.all_eq_true.2 (fun j hj => ?_)
      unfold va_cpy
      by_cases q : 0 ≤ j ∧ j < 0 + pSB_m b
      · rw [if_pos q]; exact fitAll_at e6 (by omega)
      · rw [if_neg q]; exact fitB 0 (by decide)
    · intro i hi
      unfold va_cpy
      rw [if_pos ⟨by omega, by omega⟩, show 0 + (i - 0) = i by omega]
      exact e7 i hi
theorem fit_upd {m : Nat} {f : Nat → Int32} (h : fitAll m f = true) {i a : Nat} (ha : a < 128) : fitAll m (upd f i (nI a)) = true := by
  refine List.all_eq_true.2 (fun j hj => ?_)
  by_cases e : j = i
  · subst e; rw [upd_at]; exact fitB a ha
  · rw [upd_ne e]; exact fitAll_at h (List.mem_range.1 hj)
theorem app_c {b : TSB} {k : Nat} {c : Nat → Nat} (h : TXc (pSB_m b) (pSB_f b) (pSB_n b) k c) (hk : k < 60) {a : Nat} (ha : a < 128) : ∃ m f, m_J4_append_cf468 b (nI a) = some (m, f, nI (k + 1)) ∧ TXc m f (nI (k + 1)) (k + 1) (fun i => if i = k then a else c i) := by
  obtain ⟨m', f', e, hm, t1, t2, t3, t4, t5, t6, t7⟩ := ens_tx h (q := k + 1) (by omega)
  refine ⟨m', upd f' k (nI a), ?_, rfl, by omega, hm, t4, t5, fit_upd t6 ha, ?_⟩
  · unfold m_J4_append_cf468 m_J5_append_3fe6f m_J5_isLatin1_aae02 m_J1_canEncode_fc78d
    rw [t1, nI_1, e, Option.bind_some, if_neg (by decide), if_pos rfl, Option.bind_some, if_neg (by decide), if_neg (fun e => by rw [i_lt, i255, nI_toInt (by omega)] at e; omega), Option.bind_some, if_neg (by decide), if_pos (inb_nI (by omega) (by omega)), nI_clamp (by omega), narB, (narA a ha).1]
    rfl
  · intro i hi
    dsimp only
    by_cases e : i = k
    · rw [if_pos e, e, upd_at]; exact ⟨rfl, ha⟩
    · rw [upd_ne e, if_neg e]; exact t7 i (by omega)
-- a word is appended
def chB (w j : Nat) : Nat := ((bytS.getD w []).getD j 0).toInt.toNat
def lnB (w : Nat) : Nat := lenS.getD w 0
theorem chB_ok : ∀ w, w < 10 → ∀ j, j < lnB w → (bytS.getD w []).getD j 0 = nI (chB w j) ∧ chB w j < 128 ∧ m_J0_charAt_5068e w (nI j) = some (nI (chB w j)) := by decide +kernel
theorem lnB_ok : ∀ w, w < 10 → m_J0_length_8abf5 w = some (nI (lnB w)) ∧ lnB w ≤ 6 := by decide +kernel
theorem app_s {b : TSB} {k : Nat} {c : Nat → Nat} (h : TXc (pSB_m b) (pSB_f b) (pSB_n b) k c) {w : Nat} (hw : w < 10) (hk : k + lnB w ≤ 60) : ∃ m f, m_J4_append_15ec4 b w = some (m, f, nI (k + lnB w)) ∧ TXc m f (nI (k + lnB w)) (k + lnB w) (fun i => if i < k then c i else chB w (i - k)) := by
  obtain ⟨l1, l2⟩ := lnB_ok w hw
  obtain ⟨m', f', e, hm, t1, t2, t3, t4, t5, t6, t7⟩ := ens_tx h (q := k + lnB w) (by omega)
  have cz : (0 : Int32).toNatClampNeg = 0 := rfl
  have hb : m_J0_getBytes_840e7 (m', f') w (nI k) 0 = some (va_cpy (fun j => (bytS.getD w []).getD j 0) f' 0 k (lnB w)) := by
    unfold m_J0_getBytes_840e7 m_J0_coder_7d493
    rw [if_pos hw, if_pos hw, if_pos hw, if_neg (by decide), Option.bind_some, if_pos rfl, (shl0 k (by omega)).1, cz, show lenS.getD w 0 = lnB w from rfl, nI_clamp (n := k) (by omega), nI_clamp (n := lnB w) (by omega), if_pos ⟨by decide, (fun e => by have := (nI_lti (b := 0) (by omega) (by omega)).1 e; omega), (fun e => by have := (nI_lti (b := 0) (by omega) (by omega)).1 e; omega), by omega, by show k + lnB w ≤ m'; omega⟩]
  refine ⟨m', va_cpy (fun j => (bytS.getD w []).getD j 0) f' 0 k (lnB w), ?_, rfl, hk, hm, t4, t5, ?_, ?_⟩
  · unfold m_J4_append_15ec4 m_J5_append_cf1ce
    rw [if_pos hw, l1, Option.bind_some, t1, nI_add, e, Option.bind_some]
    unfold m_J5_putStringAt_47b60 m_J5_inflateIfNeededFor_a7421
    rw [if_neg (by decide), if_pos hw]
    unfold m_J0_coder_7d493
    rw [if_pos hw, if_neg (by decide), Option.bind_some, if_pos rfl, Option.bind_some, if_pos hw]
    show Option.bind (Option.bind (Option.bind (m_J0_getBytes_840e7 (m', f') w (nI k) 0) _) _) _ = _
    rw [hb]
    rfl
  · refine List.all_eq_true.2 (fun j hj => ?_)
    unfold va_cpy
    by_cases q : k ≤ j ∧ j < k + lnB w
    · rw [if_pos q, show 0 + (j - k) = j - k by omega]
      dsimp only
      rw [(chB_ok w hw (j - k) (by omega)).1]
      exact fitB _ (chB_ok w hw (j - k) (by omega)).2.1
    · rw [if_neg q]; exact fitAll_at t6 (List.mem_range.1 hj)
  · intro i hi
    dsimp only
    unfold va_cpy
    by_cases q : i < k
    · rw [if_neg (by omega), if_pos q]; exact t7 i q
    · rw [if_pos ⟨by omega, by omega⟩, if_neg q, show 0 + (i - k) = i - k by omega]
      exact ⟨(chB_ok w hw (i - k) (by omega)).1, (chB_ok w hw (i - k) (by omega)).2.1⟩
-- the rest
theorem setl {b : TSB} {k : Nat} {c : Nat → Nat} (h : TXc (pSB_m b) (pSB_f b) (pSB_n b) k c) : ∃ m f l, m_J4_setLength_d00df b 0 = some (m, f, l, 0) ∧ TXc m f 0 0 c := by
  obtain ⟨m', f', e, hm, t1, t2, t3, t4, t5, t6, t7⟩ := ens_tx h (q := 0) (by omega)
  have e : m_J5_ensure b 0 = some (m', f') := e
  refine ⟨m', f', if pSB_n b ≤ 0 then pSB_l b else 1, ?_, rfl, by omega, by omega, t4, t5, t6, fun i hi => absurd hi (Nat.not_lt_zero i)⟩
  unfold m_J4_setLength_d00df m_J5_setLength_d00df
  rw [if_pos (by decide), e, Option.bind_some, if_pos (by rw [t1]; exact (nI_lei (a := 0) (by omega) (by omega)).2 (by omega))]
  split <;> rfl
theorem charat {b : TSB} {k : Nat} {c : Nat → Nat} (h : TXc (pSB_m b) (pSB_f b) (pSB_n b) k c) {i : Nat} (hi : i < k) : m_J4_charAt_5068e b (nI i) = some (nI (c i)) := by
  obtain ⟨t1, t2, t3, t4, t5, t6, t7⟩ := h
  have ac : ∀ a, a < 128 → (((nI a) &&& (255 : Int32)).toUInt32 % 65536).toInt32 = nI a := by decide +kernel
  have ck : m_J0_checkIndex_df160 (nI i) (nI k) = some () := by
    have : ∀ k, k < 61 → ∀ i, i < k → m_J0_checkIndex_df160 (nI i) (nI k) = some () := by decide +kernel
    exact this k (by omega) i hi
  unfold m_J4_charAt_5068e m_J5_charAt_5068e
  rw [(shl0 (pSB_m b) (by omega)).2, t1]
  have hmin : (if nI (pSB_m b) < nI k then nI (pSB_m b) else nI k) = nI k := if_neg (fun e => by rw [nI_lti (by omega) (by omega)] at e; omega)
  rw [hmin, Option.bind_some, ck, Option.bind_some, if_pos rfl, if_pos (inb_nI (by omega) (by omega)), nI_clamp (by omega), (t7 i hi).1, ac _ (t7 i hi).2, Option.bind_some]
