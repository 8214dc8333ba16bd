/-! WHO IS UNDER WHOM: by the rules that are there (those of W are not) -/
theorem nI_inj {a b : Nat} (ha : a < 2 ^ 31) (hb : b < 2 ^ 31) (h : nI a = nI b) : a = b := by
  have := congrArg Int32.toInt h
  rw [nI_toInt ha, nI_toInt hb] at this
  omega
def edg (A : Sh) (W a b : Nat) : Prop := ∃ r, r < hU A ∧ W.testBit r = false ∧ hL A r = a ∧ hO A r = b
/-- the least transitive relation that holds those rules -/
def Und (A : Sh) (W a b : Nat) : Prop := ∀ Q : Nat → Nat → Prop, (∀ x y, edg A W x y → Q x y) → (∀ x y z, Q x y → Q y z → Q x z) → Q a b
theorem Und_edg {A : Sh} {W a b : Nat} (h : edg A W a b) : Und A W a b := fun _ h1 _ => h1 a b h
theorem Und_tr {A : Sh} {W a b c : Nat} (h : Und A W a b) (k : Und A W b c) : Und A W a c := fun Q h1 h2 => h2 a b c (h Q h1 h2) (k Q h1 h2)
theorem Und_lt {A : Sh} (hok : okS A) {W a b : Nat} (h : Und A W a b) : a < hN A ∧ b < hN A := by
  refine h (fun a b => a < hN A ∧ b < hN A) ?_ ?_
  · intro x y ⟨r, hr, _, e1, e2⟩
    obtain ⟨k1, k2, _⟩ := hok.2.1.2 r hr
    rw [e1] at k1
    rw [e2] at k2
    exact ⟨k1, k2⟩
  · intro x y z h1 h2
    exact ⟨h1.1, h2.2⟩
/-- by k rules at most -/
def rp (A : Sh) (W : Nat) : Nat → Nat → Nat → Prop
  | 0, _, _ => False
  | k + 1, a, b => edg A W a b ∨ ∃ c, rp A W k a c ∧ edg A W c b
theorem rp_s {A : Sh} {W : Nat} : ∀ (k : Nat) {a b : Nat}, rp A W k a b → rp A W (k + 1) a b := by
  intro k
  induction k with
  | zero => intro a b h; exact h.elim
  | succ k ih =>
    intro a b h
    rcases h with h | ⟨c, h1, h2⟩
    · exact Or.inl h
    · exact Or.inr ⟨c, ih h1, h2⟩
theorem rp_mono {A : Sh} {W k m a b : Nat} (hkm : k ≤ m) (h : rp A W k a b) : rp A W m a b := by
  induction m with
  | zero => rw [show k = 0 by omega] at h; exact h
  | succ m ih =>
    rcases Nat.lt_or_ge k (m + 1) with q | q
    · exact rp_s m (ih (by omega))
    · rw [show k = m + 1 by omega] at h; exact h
theorem rp_head {A : Sh} {W : Nat} : ∀ (k : Nat) {a b : Nat}, rp A W (k + 1) a b → edg A W a b ∨ ∃ c, edg A W a c ∧ rp A W k c b := by
  intro k
  induction k with
  | zero =>
    intro a b h
    rcases h with h | ⟨c, h, _⟩
    · exact Or.inl h
    · exact h.elim
  | succ k ih =>
    intro a b h
    rcases h with h | ⟨c, h1, h2⟩
    · exact Or.inl h
    · rcases ih h1 with q | ⟨d, q1, q2⟩
      · exact Or.inr ⟨c, q, Or.inl h2⟩
      · exact Or.inr ⟨d, q1, Or.inr ⟨c, q2, h2⟩⟩
theorem rp_und {A : Sh} {W : Nat} : ∀ (k : Nat) {a b : Nat}, rp A W k a b → Und A W a b := by
  intro k
  induction k with
  | zero => intro a b h; exact h.elim
  | succ k ih =>
    intro a b h
    rcases h with h | ⟨c, h1, h2⟩
    · exact Und_edg h
    · exact Und_tr (ih h1) (Und_edg h2)
noncomputable def one (P : Prop) : Nat := @ite Nat P (Classical.propDecidable P) 1 0
theorem one_t {P : Prop} (h : P) : one P = 1 := @if_pos P (Classical.propDecidable P) h Nat 1 0
theorem one_f {P : Prop} (h : ¬ P) : one P = 0 := @if_neg P (Classical.propDecidable P) h Nat 1 0
theorem one_le (P : Prop) : one P ≤ 1 := by
  by_cases h : P
  · rw [one_t h]; exact Nat.le_refl 1
  · rw [one_f h]; exact Nat.zero_le 1
theorem one_mono {P Q : Prop} (h : P → Q) : one P ≤ one Q := by
  by_cases k : P
  · rw [one_t k, one_t (h k)]; exact Nat.le_refl 1
  · rw [one_f k]; exact Nat.zero_le _
theorem sm_lt {g h : Nat → Nat} : ∀ {n i : Nat}, (∀ j, j < n → g j ≤ h j) → i < n → g i < h i → sm g n < sm h n := by
  intro n
  induction n with
  | zero => intro i _ hi; omega
  | succ n ih =>
    intro i e hi hl
    rcases Nat.lt_or_ge i n with q | q
    · exact Nat.add_lt_add_of_lt_of_le (ih (fun j hj => e j (by omega)) q hl) (e n (by omega))
    · rw [show i = n by omega] at hl
      exact Nat.add_lt_add_of_le_of_lt (sm_le (fun j hj => e j (by omega))) hl
theorem rp_stab {A : Sh} {W k a : Nat} (hs : ∀ b, rp A W (k + 1) a b → rp A W k a b) {b : Nat} (h : Und A W a b) : rp A W k a b := by
  refine (h (fun x y => (x = a → rp A W k a y) ∧ (rp A W k a x → rp A W k a y)) ?_ ?_).1 rfl
  · intro x y hxy
    exact ⟨fun e => hs y (by rw [e] at hxy; exact Or.inl hxy), fun e => hs y (Or.inr ⟨x, e, hxy⟩)⟩
  · intro x y z h1 h2
    exact ⟨fun e => h2.2 (h1.1 e), fun e => h2.2 (h1.2 e)⟩
theorem rp_full {A : Sh} (hok : okS A) {W a b : Nat} (h : Und A W a b) : rp A W (hN A) a b := by
  have key : ∀ k, (∃ j, j ≤ k ∧ ∀ b, rp A W (j + 1) a b → rp A W j a b) ∨ k ≤ sm (fun b => one (rp A W k a b)) (hN A) := by
    intro k
    induction k with
    | zero => exact Or.inr (Nat.zero_le _)
    | succ k ih =>
      rcases ih with ⟨j, hj, q⟩ | q
      · exact Or.inl ⟨j, by omega, q⟩
      · by_cases c : ∀ b, rp A W (k + 1) a b → rp A W k a b
        · exact Or.inl ⟨k, by omega, c⟩
        · refine Or.inr ?_
          have c2 : ∃ b, rp A W (k + 1) a b ∧ ¬ rp A W k a b := Classical.byContradiction fun q => c fun b h1 => Classical.byContradiction fun h2 => q ⟨b, h1, h2⟩
          obtain ⟨b, h1, h2⟩ := c2
          have lt := sm_lt (g := fun b => one (rp A W k a b)) (h := fun b => one (rp A W (k + 1) a b)) (n := hN A) (i := b) (fun j _ => one_mono (rp_s k)) (Und_lt hok (rp_und _ h1)).2 (by rw [one_t h1, one_f h2]; exact Nat.zero_lt_one)
          omega
  rcases key (hN A) with ⟨j, hj, q⟩ | q
  · exact rp_mono hj (rp_stab q h)
  · refine Classical.byContradiction fun c => ?_
    have lt := sm_lt (g := fun b => one (rp A W (hN A) a b)) (h := fun _ => 1) (n := hN A) (i := b) (fun j _ => one_le _) (Und_lt hok h).2 (by rw [one_f c]; exact Nat.zero_lt_one)
    rw [sm_const] at lt
    omega
noncomputable def undB (A : Sh) (W a b : Nat) : Bool := @decide (Und A W a b) (Classical.propDecidable _)
theorem undB_iff {A : Sh} {W a b : Nat} : undB A W a b = true ↔ Und A W a b := @decide_eq_true_iff _ (Classical.propDecidable _)
/-- those that p is under; those under p -/
noncomputable def ovs (A : Sh) (W p : Nat) : Nat := bs (fun q => undB A W p q) (hN A)
noncomputable def bls (A : Sh) (W p : Nat) : Nat := bs (fun q => undB A W q p) (hN A)
theorem ovs_bit {A : Sh} (hok : okS A) {W p q : Nat} : (ovs A W p).testBit q = true ↔ Und A W p q := by
  unfold ovs
  rw [bs_bit, Bool.and_eq_true, decide_eq_true_iff, undB_iff]
  exact ⟨fun h => h.2, fun h => ⟨(Und_lt hok h).2, h⟩⟩
theorem bls_bit {A : Sh} (hok : okS A) {W p q : Nat} : (bls A W p).testBit q = true ↔ Und A W q p := by
  unfold bls
  rw [bs_bit, Bool.and_eq_true, decide_eq_true_iff, undB_iff]
  exact ⟨fun h => h.2, fun h => ⟨(Und_lt hok h).1, h⟩⟩
theorem bits_iff {a b n : Nat} (ha : a < 2 ^ n) (hb : b < 2 ^ n) (h : ∀ i, i < n → (a.testBit i = true ↔ b.testBit i = true)) : a = b := by
  refine bits_ext ha hb (fun i hi => ?_)
  have := h i hi
  cases q1 : a.testBit i <;> cases q2 : b.testBit i <;> simp [q1, q2] at this ⊢
