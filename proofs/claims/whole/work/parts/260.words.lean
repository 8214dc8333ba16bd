-- the words of a statement
def SG (c : Nat → Nat) (n k : Nat) : Int32 := if k < n then nI (c k) else -1
def lnW (w : Nat) : Nat := ((m_J0_length_8abf5 w).getD 0).toInt.toNat
def chW (w j : Nat) : Int32 := (m_J0_charAt_5068e w (nI j)).getD 0
theorem lnW_ok : ∀ w, w < 8 → (m_J0_length_8abf5 w = some (nI (lnW w)) ∧ 1 ≤ lnW w ∧ lnW w ≤ 10) := by decide +kernel
theorem chW_ok : ∀ w, w < 8 → ∀ j, j < lnW w → m_J0_charAt_5068e w (nI j) = some (chW w j) := by decide +kernel
def difW (w v : Nat) : Bool := (List.range 10).any fun j => decide (j < lnW w) && decide (j < lnW v) && decide (chW w j ≠ chW v j)
theorem difW_ok : ∀ w, w < 8 → ∀ v, v < 8 → w ≠ v → difW w v = true := by decide +kernel
theorem txt9 : ∀ w, w < 8 → m_X3_textOf (nI w) = some w := by decide +kernel
theorem txt10 : ∀ w, w < 8 → m_X10_word (nI w) = some w := by decide +kernel
theorem sign9 {s : T3} {n k : Nat} {c : Nat → Nat} (h1 : p3_size s = nI n) (h2 : Eqn (p3_signs s) c n) (hn : n ≤ 120) (hk : k < 2 ^ 20) : m_X3_signAt s (nI k) = some (SG c n k) := by
  unfold m_X3_signAt SG
  rw [h1]
  by_cases q : k < n
  · rw [if_neg (by rw [nI_lei (by omega) (by omega)]; omega), get_in (by omega) (by decide), Option.bind_some, if_pos q, h2 k q]
  · rw [if_pos (by rw [nI_lei (by omega) (by omega)]; omega), if_neg q]
theorem here10 {t : T10} {n k : Nat} {c : Nat → Nat} (h1 : p10_letters t = nI n) (h2 : Eqn (p10_letter t) c n) (hn : n ≤ 120) (hk : k < 2 ^ 20) (h3 : p10_at t = nI k) : m_X10_here t = some (SG c n k) := by
  unfold m_X10_here SG
  rw [h1, h3]
  by_cases q : k < n
  · rw [if_neg (by rw [nI_lei (by omega) (by omega)]; omega), if_pos (inb_nI (by omega) (by decide)), if_pos q, nI_clamp (by omega), h2 k q]
  · rw [if_pos (by rw [nI_lei (by omega) (by omega)]; omega), if_neg q]
def al (S : Nat → Int32) (w a : Nat) : Nat → Nat → Nat
  | 0, i => i
  | m + 1, i => if S (a + i) = chW w i then al S w a m (i + 1) else i
theorem al_spec (S : Nat → Int32) (w a : Nat) : ∀ m i, i ≤ al S w a m i ∧ al S w a m i ≤ i + m ∧ (∀ j, i ≤ j → j < al S w a m i → S (a + j) = chW w j) ∧ (al S w a m i < i + m → S (a + al S w a m i) ≠ chW w (al S w a m i)) := by
  intro m
  induction m with
  | zero => exact fun i => ⟨Nat.le_refl _, Nat.le_refl _, fun j h1 h2 => absurd h2 (Nat.not_lt.2 h1), fun h => absurd h (Nat.lt_irrefl _)⟩
  | succ m ih =>
    intro i
    unfold al
    by_cases q : S (a + i) = chW w i
    · rw [if_pos q]
      obtain ⟨h1, h2, h3, h4⟩ := ih (i + 1)
      refine ⟨by omega, by omega, fun j q1 q2 => ?_, fun q1 => h4 (by omega)⟩
      by_cases e : j = i
      · rw [e]; exact q
      · exact h3 j (by omega) q2
    · rw [if_neg q]
      exact ⟨Nat.le_refl _, by omega, fun j h1 h2 => absurd h2 (Nat.not_lt.2 h1), fun _ => q⟩
def alk (S : Nat → Int32) (a w : Nat) : Nat := al S w a (lnW w) 0
theorem alk_le (S : Nat → Int32) (a w : Nat) : alk S a w ≤ lnW w := by have := (al_spec S w a (lnW w) 0).2.1; unfold alk; omega
theorem alk_eq (S : Nat → Int32) (a w : Nat) {j : Nat} (h : j < alk S a w) : S (a + j) = chW w j := (al_spec S w a (lnW w) 0).2.2.1 j (Nat.zero_le _) h
theorem alk_ne (S : Nat → Int32) (a w : Nat) (h : alk S a w < lnW w) : S (a + alk S a w) ≠ chW w (alk S a w) := (al_spec S w a (lnW w) 0).2.2.2 (by unfold alk at h; omega)
theorem alk_one {S : Nat → Int32} {a w v : Nat} (hw : w < 8) (hv : v < 8) (h1 : alk S a w = lnW w) (h2 : alk S a v = lnW v) : w = v := by
  rcases Nat.decEq w v with e | e
  · exfalso
    have d := difW_ok w hw v hv e
    unfold difW at d
    rw [List.any_eq_true] at d
    obtain ⟨j, _, d⟩ := d
    rw [Bool.and_eq_true, Bool.and_eq_true, decide_eq_true_eq, decide_eq_true_eq, decide_eq_true_eq] at d
    exact d.2 ((alk_eq S a w (by omega)).symm.trans (alk_eq S a v (by omega)))
  · exact e
theorem alike9 {s : T3} {n a w : Nat} {c : Nat → Nat} (h1 : p3_size s = nI n) (h2 : Eqn (p3_signs s) c n) (hn : n ≤ 120) (ha : p3_at s = nI a) (hA : a ≤ 200) (hw : w < 8) : m_X3_alikeWith s w = some (nI (alk (SG c n) a w)) := by
  obtain ⟨l1, l2, l3⟩ := lnW_ok w hw
  have hle := alk_le (SG c n) a w
  have e : lp (fun z : Int32 => m_X3_alikeWith_l2 s w z) fu 0 = some (nI (alk (SG c n) a w)) := by
    refine lp_for nI (alk (SG c n) a w) (fun k hk => ?_) ?_ (by omega) rfl
    · show m_X3_alikeWith_l2 s w (nI k) = _
      unfold m_X3_alikeWith_l2
      rw [if_pos (by omega), l1, Option.bind_some, if_neg (by rw [nI_lei (by omega) (by omega)]; omega), ha, nI_add, sign9 h1 h2 hn (by omega), Option.bind_some, if_pos (by omega), chW_ok w hw k (by omega), Option.bind_some, if_pos (alk_eq _ _ _ hk), nI_1]
    · show m_X3_alikeWith_l2 s w (nI _) = _
      unfold m_X3_alikeWith_l2
      rw [if_pos (by omega), l1, Option.bind_some]
      by_cases q : lnW w ≤ alk (SG c n) a w
      · rw [if_pos (by rw [nI_lei (by omega) (by omega)]; omega)]
      · rw [if_neg (by rw [nI_lei (by omega) (by omega)]; omega), ha, nI_add, sign9 h1 h2 hn (by omega), Option.bind_some, if_pos (by omega), chW_ok w hw _ (by omega), Option.bind_some, if_neg (alk_ne _ _ _ (by omega))]
  unfold m_X3_alikeWith
  rw [e, Option.bind_some]
def mxW (f : Nat → Nat) : Nat → Nat
  | 0 => 0
  | W + 1 => if mxW f W < f W then f W else mxW f W
theorem mxW_ge {f : Nat → Nat} {W w : Nat} (h : w < W) : f w ≤ mxW f W := by
  induction W with
  | zero => omega
  | succ W ih =>
    unfold mxW
    by_cases e : w = W
    · subst e; split <;> omega
    · have := ih (by omega); split <;> omega
theorem mxW_of {f : Nat → Nat} {W i : Nat} (hi : 1 ≤ i) (h : i ≤ mxW f W) : ∃ w, w < W ∧ i ≤ f w := by
  induction W with
  | zero => exact absurd h (by unfold mxW; omega)
  | succ W ih =>
    unfold mxW at h
    split at h
    · exact ⟨W, by omega, h⟩
    · obtain ⟨w, h1, h2⟩ := ih h; exact ⟨w, by omega, h2⟩
theorem mxW_le {f : Nat → Nat} {W m : Nat} (h : ∀ w, w < W → f w ≤ m) : mxW f W ≤ m := by
  induction W with
  | zero => exact Nat.zero_le _
  | succ W ih =>
    have := ih (fun w hw => h w (by omega))
    have := h W (by omega)
    unfold mxW; split <;> omega
