-- the word that stands at a place
theorem n8 {w : Nat} (hw : w < 8) : ¬ (8 : Int32) ≤ nI w := nI_ge (b := 8) hw (by omega)
theorem lnW_le {w : Nat} (hw : w < 8) : lnW w ≤ 10 := (lnW_ok w hw).2.2
theorem word9s {s : T3} {n a : Nat} {c : Nat → Nat} (h1 : p3_size s = nI n) (h2 : Eqn (p3_signs s) c n) (hn : n ≤ 120) (ha : p3_at s = nI a) (hA : a ≤ 200) {w : Nat} (hw : w < 8) (x : Nat) (hx : x ≤ 10) (hq : alk (SG c n) a w ≠ lnW w) : m_X3_readWord_l4 s (nI x) (nI w) = some (.inl (nI (if x < alk (SG c n) a w then alk (SG c n) a w else x), nI (w + 1))) := by
  obtain ⟨l1, l2, l3⟩ := lnW_ok w hw
  have hle := alk_le (SG c n) a w
  unfold m_X3_readWord_l4
  rw [if_neg (n8 hw), txt9 w hw, Option.bind_some, alike9 h1 h2 hn ha hA hw, Option.bind_some, Option.bind_some, if_pos (by omega), l1, Option.bind_some, if_neg (fun e => hq (nI_inj (by omega) (by omega) e))]
  simp only [Option.bind_some]
  rw [nI_1]
  by_cases q : x < alk (SG c n) a w
  · rw [if_pos ((nI_lti (by omega) (by omega)).2 q), if_pos q]
  · rw [if_neg (fun e => q ((nI_lti (by omega) (by omega)).1 e)), if_neg q]
theorem word9n {s : T3} {n a : Nat} {c : Nat → Nat} (h1 : p3_size s = nI n) (h2 : Eqn (p3_signs s) c n) (hn : n ≤ 120) (ha : p3_at s = nI a) (hA : a ≤ 200) (hq : ∀ w, w < 8 → alk (SG c n) a w ≠ lnW w) : m_X3_readWord s = some (0, nI (a + mxW (alk (SG c n) a) 8), p3_word s) := by
  have e : lp (fun z : Int32 × Int32 => m_X3_readWord_l4 s z.1 z.2) fu (0, 0) = some (.inr (nI (mxW (alk (SG c n) a) 8))) := by
    refine lp_for (fun W => (nI (mxW (alk (SG c n) a) W), nI W)) 8 (fun k hk => ?_) ?_ (by omega) rfl
    · show m_X3_readWord_l4 s (nI _) (nI k) = _
      rw [word9s h1 h2 hn ha hA hk _ (mxW_le (fun w hw => Nat.le_trans (alk_le _ _ _) (lnW_le (by omega)))) (hq k hk)]
      rfl
    · show m_X3_readWord_l4 s (nI _) (nI 8) = _
      unfold m_X3_readWord_l4
      rw [if_pos (by decide)]
  unfold m_X3_readWord
  rw [e, Option.bind_some]
  show some ((0 : Int32), p3_at s + nI (mxW (alk (SG c n) a) 8), p3_word s) = _
  rw [ha, nI_add]
theorem word9y {s : T3} {n a : Nat} {c : Nat → Nat} (h1 : p3_size s = nI n) (h2 : Eqn (p3_signs s) c n) (hn : n ≤ 120) (ha : p3_at s = nI a) (hA : a ≤ 200) {w : Nat} (hw : w < 8) (hq : alk (SG c n) a w = lnW w) : m_X3_readWord s = some (1, nI (a + lnW w), nI w) := by
  obtain ⟨l1, l2, l3⟩ := lnW_ok w hw
  have e : lp (fun z : Int32 × Int32 => m_X3_readWord_l4 s z.1 z.2) fu (0, 0) = some (.inl (nI w, nI (lnW w))) := by
    refine lp_for (fun W => (nI (mxW (alk (SG c n) a) W), nI W)) w (fun k hk => ?_) ?_ (by omega) rfl
    · show m_X3_readWord_l4 s (nI _) (nI k) = _
      rw [word9s h1 h2 hn ha hA (by omega) _ (mxW_le (fun w hw => Nat.le_trans (alk_le _ _ _) (lnW_le (by omega)))) (fun e => by have := alk_one (S := SG c n) (a := a) hw (show k < 8 by omega) hq e; omega)]
      rfl
    · show m_X3_readWord_l4 s (nI _) (nI w) = _
      unfold m_X3_readWord_l4
      rw [if_neg (n8 hw), txt9 w hw, Option.bind_some, alike9 h1 h2 hn ha hA hw, Option.bind_some, Option.bind_some, if_pos (by omega), l1, Option.bind_some, hq, if_pos rfl]
  unfold m_X3_readWord
  rw [e, Option.bind_some]
  show some ((1 : Int32), p3_at s + nI (lnW w), nI w) = _
  rw [ha, nI_add]
-- the reference's
def avW (f : Nat → Nat) (i W : Nat) : Nat := bs (fun w => decide (i ≤ f w)) W
theorem avW_lt (f : Nat → Nat) (i W : Nat) (h : W ≤ 8) : avW f i W < 2 ^ 31 := by
  have := bs_lt (fun w => decide (i ≤ f w)) W
  have : 2 ^ W ≤ 2 ^ 8 := Nat.pow_le_pow_right (by decide) h
  unfold avW
  omega
theorem avW_bit (f : Nat → Nat) (i : Nat) {w : Nat} (h : w < 8) : (avW f i 8).testBit w = decide (i ≤ f w) := by
  unfold avW
  rw [bs_bit]; simp [h]
theorem avW_0 (f : Nat → Nat) (i : Nat) : avW f i 8 = 0 ↔ 1 ≤ i ∧ mxW f 8 < i := by
  constructor
  · intro h
    have k : ∀ w, w < 8 → ¬ i ≤ f w := fun w hw q => by
      have := avW_bit f i hw
      rw [h, Nat.zero_testBit] at this
      simp at this; omega
    have k0 := k 0 (by omega)
    refine ⟨by omega, Nat.lt_of_not_le (fun q => ?_)⟩
    obtain ⟨w, hw, q⟩ := mxW_of (by omega) q
    exact k w hw q
  · intro ⟨h1, h2⟩
    refine Nat.eq_of_testBit_eq (fun j => ?_)
    rw [Nat.zero_testBit]
    by_cases hj : j < 8
    · rw [avW_bit f i hj]
      have := mxW_ge (f := f) hj
      simp; omega
    · unfold avW; rw [bs_bit]; simp [hj]
theorem avW_step (f : Nat → Nat) (i W : Nat) (h : W < 8) : avW f i (W + 1) = avW f i W ||| (if i ≤ f W then 2 ^ W else 0) := by
  unfold avW
  rw [bs_or]
  by_cases q : i ≤ f W
  · rw [if_pos q, if_pos (by simp [q])]
  · rw [if_neg q, if_neg (by simp [q])]
theorem read10s {t : T10} {n a i w : Nat} {c : Nat → Nat} (h1 : p10_letters t = nI n) (h2 : Eqn (p10_letter t) c n) (hn : n ≤ 120) (hA : a ≤ 200) (hi : i ≤ 10) (hw : w < 8) (hq : ¬ (alk (SG c n) a w = lnW w ∧ lnW w = i)) : m_X10_readWord_l15_2 t (nI (avW (alk (SG c n) a) i 8)) (nI i) (nI (a + i)) (nI (avW (alk (SG c n) a) (i + 1) w)) (nI w) = some (.inl (nI (avW (alk (SG c n) a) (i + 1) (w + 1)), nI (w + 1))) := by
  obtain ⟨l1, l2, l3⟩ := lnW_ok w hw
  have hle := alk_le (SG c n) a w
  have hh := here10 (t := u10_at (nI (a + i)) t) (k := a + i) h1 h2 hn (by omega) rfl
  unfold m_X10_readWord_l15_2
  rw [if_neg (n8 hw), has10 (avW_lt _ _ _ (by omega)) (by omega), Option.bind_some, Option.bind_some, avW_bit _ _ hw, avW_step _ _ _ hw, txt10 w hw]
  simp only [Option.bind_some]
  by_cases q : i ≤ alk (SG c n) a w
  · rw [if_pos (show decide (i ≤ alk (SG c n) a w) = true from decide_eq_true q), if_neg (by decide), if_pos (by omega), l1, Option.bind_some, if_neg (fun e => by have := nI_inj (by omega) (by omega) e; omega), if_neg (by decide), if_pos (by omega), chW_ok w hw i (by omega), Option.bind_some, hh, Option.bind_some, nI_1]
    by_cases q2 : i + 1 ≤ alk (SG c n) a w
    · rw [if_pos (alk_eq (SG c n) a w (by omega)).symm, if_pos q2, nI_shl1 w (by omega), nI_or]
    · have e : i = alk (SG c n) a w := by omega
      rw [if_neg (fun k => alk_ne (SG c n) a w (by omega) (by rw [← e]; exact k.symm)), if_neg q2, show (0 : Int32) = nI 0 from rfl, nI_or]
  · rw [if_neg (show ¬ decide (i ≤ alk (SG c n) a w) = true by simp; omega), if_pos rfl, if_pos rfl, if_neg (by omega), nI_1, show (0 : Int32) = nI 0 from rfl, nI_or]
theorem read10i {t : T10} {n a i : Nat} {c : Nat → Nat} (h1 : p10_letters t = nI n) (h2 : Eqn (p10_letter t) c n) (hn : n ≤ 120) (hA : a ≤ 200) (hi : i ≤ 10) (hq : ∀ w, w < 8 → ¬ (alk (SG c n) a w = lnW w ∧ lnW w = i)) : lp (fun z : Int32 × Int32 => m_X10_readWord_l15_2 t (nI (avW (alk (SG c n) a) i 8)) (nI i) (nI (a + i)) z.1 z.2) fu (0, 0) = some (.inr (nI (avW (alk (SG c n) a) (i + 1) 8))) := by
  refine lp_for (fun W => (nI (avW (alk (SG c n) a) (i + 1) W), nI W)) 8 (fun k hk => ?_) ?_ (by omega) rfl
  · show m_X10_readWord_l15_2 t _ _ _ (nI _) (nI k) = _
    exact read10s h1 h2 hn hA hi hk (hq k hk)
  · show m_X10_readWord_l15_2 t _ _ _ (nI _) (nI 8) = _
    unfold m_X10_readWord_l15_2
    rw [if_pos (by decide)]
theorem read10o {t : T10} {n a i : Nat} {c : Nat → Nat} (h1 : p10_letters t = nI n) (h2 : Eqn (p10_letter t) c n) (hn : n ≤ 120) (hA : a ≤ 200) (hi : i ≤ 10) (hq : ∀ w, w < 8 → ¬ (alk (SG c n) a w = lnW w ∧ lnW w = i)) (hm : i ≤ mxW (alk (SG c n) a) 8) : m_X10_readWord_l6 t (nI (avW (alk (SG c n) a) i 8)) (nI i) (nI (a + i)) = some (.inl (nI (avW (alk (SG c n) a) (i + 1) 8), nI (i + 1), nI (a + (if i + 1 ≤ mxW (alk (SG c n) a) 8 then i + 1 else i)))) := by
  unfold m_X10_readWord_l6
  rw [if_neg (fun e => by have := (avW_0 _ _).1 (nI_inj (b := 0) (avW_lt _ _ _ (by omega)) (by decide) e); omega), read10i h1 h2 hn hA hi hq, Option.bind_some]
  show (if nI (avW (alk (SG c n) a) (i + 1) 8) = 0 then _ else _) = _
  by_cases q : i + 1 ≤ mxW (alk (SG c n) a) 8
  · rw [if_neg (fun e => by have := (avW_0 _ _).1 (nI_inj (b := 0) (avW_lt _ _ _ (by omega)) (by decide) e); omega), if_pos q, nI_1, nI_1]
    rfl
  · have e0 := (avW_0 (alk (SG c n) a) (i + 1)).2 ⟨by omega, by omega⟩
    rw [e0, if_pos (show nI 0 = 0 from rfl), if_neg q, nI_1, show nI (a + i) + 0 = nI (a + i) from nI_add _ 0]
theorem avW_255 (f : Nat → Nat) : avW f 0 8 = 255 := by
  unfold avW
  rw [show (fun w => decide (0 ≤ f w)) = fun _ => true from funext fun w => decide_eq_true (Nat.zero_le _)]
  rfl
def stW (f : Nat → Nat) (a i : Nat) : Int32 × Int32 × Int32 := (nI (avW f i 8), nI i, nI (a + (if i ≤ mxW f 8 then i else mxW f 8)))
theorem stW_in {f : Nat → Nat} {a i : Nat} (h : i ≤ mxW f 8) : stW f a i = (nI (avW f i 8), nI i, nI (a + i)) := by unfold stW; rw [if_pos h]
theorem stW_end (f : Nat → Nat) (a : Nat) : stW f a (mxW f 8 + 1) = (0, nI (mxW f 8 + 1), nI (a + mxW f 8)) := by
  unfold stW
  rw [(avW_0 f (mxW f 8 + 1)).2 ⟨by omega, by omega⟩, if_neg (by omega)]
  rfl
theorem stW_next {f : Nat → Nat} {a i : Nat} (h : i ≤ mxW f 8) : (nI (avW f (i + 1) 8), nI (i + 1), nI (a + (if i + 1 ≤ mxW f 8 then i + 1 else i))) = stW f a (i + 1) := by
  by_cases q : i + 1 ≤ mxW f 8
  · rw [stW_in q, if_pos q]
  · rw [show i = mxW f 8 by omega, stW_end, if_neg (by omega), (avW_0 f (mxW f 8 + 1)).2 ⟨by omega, by omega⟩]
    rfl
theorem word10n {t : T10} {n a : Nat} {c : Nat → Nat} (h1 : p10_letters t = nI n) (h2 : Eqn (p10_letter t) c n) (hn : n ≤ 120) (ha : p10_at t = nI a) (hA : a ≤ 200) (hq : ∀ w, w < 8 → alk (SG c n) a w ≠ lnW w) : m_X10_readWord t = some (-9, nI (a + mxW (alk (SG c n) a) 8)) := by
  have hm : mxW (alk (SG c n) a) 8 ≤ 10 := mxW_le (fun w hw => Nat.le_trans (alk_le _ _ _) (lnW_le (by omega)))
  have e : lp (fun z : Int32 × Int32 × Int32 => m_X10_readWord_l6 t z.1 z.2.1 z.2.2) fu (255, 0, p10_at t) = some (.inr (nI (a + mxW (alk (SG c n) a) 8))) := by
    refine lp_for (stW (alk (SG c n) a) a) (mxW (alk (SG c n) a) 8 + 1) (fun k hk => ?_) ?_ (by omega) ?_
    · rw [stW_in (show k ≤ mxW (alk (SG c n) a) 8 by omega), ← stW_next (show k ≤ mxW (alk (SG c n) a) 8 by omega)]
      exact read10o h1 h2 hn hA (by omega) (fun w hw q => hq w hw q.1) (by omega)
    · rw [stW_end]
      show m_X10_readWord_l6 t 0 (nI (mxW (alk (SG c n) a) 8 + 1)) (nI (a + mxW (alk (SG c n) a) 8)) = _
      unfold m_X10_readWord_l6
      rw [if_pos rfl]
    · rw [stW_in (Nat.zero_le _), avW_255, ha]
      rfl
  unfold m_X10_readWord
  rw [e, Option.bind_some]
theorem word10y {t : T10} {n a : Nat} {c : Nat → Nat} (h1 : p10_letters t = nI n) (h2 : Eqn (p10_letter t) c n) (hn : n ≤ 120) (ha : p10_at t = nI a) (hA : a ≤ 200) {w : Nat} (hw : w < 8) (hq : alk (SG c n) a w = lnW w) : m_X10_readWord t = some (nI w, nI (a + lnW w)) := by
  obtain ⟨l1, l2, l3⟩ := lnW_ok w hw
  have hm : lnW w ≤ mxW (alk (SG c n) a) 8 := by have := mxW_ge (f := alk (SG c n) a) hw; omega
  have e : lp (fun z : Int32 × Int32 × Int32 => m_X10_readWord_l6 t z.1 z.2.1 z.2.2) fu (255, 0, p10_at t) = some (.inl (nI w, nI (a + lnW w))) := by
    refine lp_for (fun i => (nI (avW (alk (SG c n) a) i 8), nI i, nI (a + i))) (lnW w) (fun k hk => ?_) ?_ (by omega) ?_
    · show m_X10_readWord_l6 t (nI _) (nI k) (nI (a + k)) = _
      rw [read10o h1 h2 hn hA (by omega) (fun v hv q => by have := alk_one (S := SG c n) (a := a) hw hv hq q.1; subst this; omega) (by omega), if_pos (by omega)]
    · show m_X10_readWord_l6 t (nI _) (nI (lnW w)) (nI (a + lnW w)) = _
      have e2 : lp (fun z : Int32 × Int32 => m_X10_readWord_l15_2 t (nI (avW (alk (SG c n) a) (lnW w) 8)) (nI (lnW w)) (nI (a + lnW w)) z.1 z.2) fu (0, 0) = some (.inl (nI w)) := by
        refine lp_for (fun W => (nI (avW (alk (SG c n) a) (lnW w + 1) W), nI W)) w (fun k hk => ?_) ?_ (by omega) rfl
        · show m_X10_readWord_l15_2 t _ _ _ (nI _) (nI k) = _
          exact read10s h1 h2 hn hA (by omega) (by omega) (fun q => by have := alk_one (S := SG c n) (a := a) hw (show k < 8 by omega) hq q.1; omega)
        · show m_X10_readWord_l15_2 t _ _ _ (nI _) (nI w) = _
          unfold m_X10_readWord_l15_2
          rw [if_neg (n8 hw), has10 (avW_lt _ _ _ (by omega)) (by omega), Option.bind_some, avW_bit _ _ hw, if_pos (show decide (lnW w ≤ alk (SG c n) a w) = true from decide_eq_true (by omega)), if_neg (by decide), txt10 w hw, Option.bind_some, if_pos (by omega), l1, Option.bind_some, if_pos rfl]
      unfold m_X10_readWord_l6
      rw [if_neg (fun e => by have := (avW_0 _ _).1 (nI_inj (b := 0) (avW_lt _ _ _ (by omega)) (by decide) e); omega), e2, Option.bind_some]
    · rw [ha]
      show _ = (nI (avW (alk (SG c n) a) 0 8), nI 0, nI (a + 0))
      rw [avW_255]
      rfl
  unfold m_X10_readWord
  rw [e, Option.bind_some]
