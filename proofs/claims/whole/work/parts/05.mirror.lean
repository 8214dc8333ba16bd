/-! MIRRORS: what the methods do, as functions that may fail -/
/-- a loop's fuel: no loop of the class or of the reference turns so often -/
def fu : Nat := 300
/-- a loop: the body goes on with another state, or comes out -/
def lp {σ ρ : Type} (f : σ → Option (σ ⊕ ρ)) : Nat → σ → Option ρ
  | 0, _ => none
  | n + 1, s => (f s).bind fun y => match y with
    | .inl s' => lp f n s'
    | .inr r => some r
theorem lp_W {σ ρ : Type} {f : σ → Option (σ ⊕ ρ)} {P : σ → Prop} {E : ρ → Prop} (hs : ∀ (s : σ) (y : σ ⊕ ρ), f s = some y → (∀ s', y = .inl s' → P s') → (∀ r, y = .inr r → E r) → P s) : ∀ (n : Nat) (s : σ) (r : ρ), lp f n s = some r → E r → P s := by
  intro n
  induction n with
  | zero => intro s r h; cases h
  | succ n ih =>
    intro s r h hE
    simp only [lp] at h
    cases hf : f s with
    | none => rw [hf] at h; cases h
    | some y =>
      rw [hf] at h
      refine hs s y hf (fun s' e => ?_) (fun r' e => ?_)
      · subst e; exact ih s' r h hE
      · subst e
        have h2 : some r' = some r := h
        cases h2
        exact hE
theorem bnd {α β : Type} {x : Option α} {k : α → Option β} {o : β} (h : x.bind k = some o) : ∃ a, x = some a ∧ k a = some o := by
  cases x with
  | none => cases h
  | some a => exact ⟨a, rfl, h⟩
theorem bnd_ne {α β : Type} {x : Option α} {k : α → Option β} {o : β} (h : x.bind k = some o) : x ≠ none := by
  intro e; rw [e] at h; cases h
theorem bnd_of {α β : Type} {x : Option α} {k : α → Option β} {o : β} {a : α} (h : x.bind k = some o) (e : x = some a) : k a = some o := by
  rw [e] at h; exact h
theorem ne_ex {α : Type} {x : Option α} (h : x ≠ none) : ∃ a, x = some a := by
  cases x with
  | none => exact absurd rfl h
  | some a => exact ⟨a, rfl⟩
theorem it_t {α : Type} {c : Prop} [Decidable c] {x y : Option α} {o : α} (h : c) (e : (if c then x else y) = some o) : x = some o := by rwa [if_pos h] at e
theorem it_f {α : Type} {c : Prop} [Decidable c] {x y : Option α} {o : α} (h : ¬ c) (e : (if c then x else y) = some o) : y = some o := by rwa [if_neg h] at e
theorem it_n {α : Type} {c : Prop} [Decidable c] {x : Option α} {o : α} (e : (if c then x else none) = some o) : c := by
  by_cases h : c
  · exact h
  · rw [if_neg h] at e; cases e
/-- a place of an array -/
def inb (i : Int32) (n : Nat) : Bool := decide (0 ≤ i.toInt ∧ i.toInt < n)
theorem inb_in {i : Int32} {n : Nat} (h : inb i n = true) : vp_in i n := vp_in_iff.mpr (of_decide_eq_true h)
