-- the first reading: the letters are all well formed, or stop at one place
def Good (S : Nat → Int32) (n : Nat) : Nat → Nat → Prop
  | 0, _ => False
  | d + 1, a => ∃ w b, OKA S a w b ∧ (b = n ∨ (b < n ∧ Good S n d b))
theorem ff_rel {s : T3} {t : T10} {n : Nat} {c : Nat → Nat} (h1 : p3_size s = nI n) (h2 : Eqn (p3_signs s) c n) (k1 : p10_letters t = nI n) (k2 : Eqn (p10_letter t) c n) (hn : n ≤ 120) : ∀ d a idx f9 f10 g0 w0 g10, n - a < d → a ≤ n → idx ≤ a → (a < n ∨ a = 0) → d < f9 → d < f10 → ∃ x, m_X3_readStatement (u3_word w0 (u3_at (nI a) (u3_numbers g0 s))) = some x ∧ ∃ r9 r10, lp (fun z : Int32 × Int32 × (Nat → Int32) × Int32 × Int32 => m_X3_firstFault_l11 s z.1 z.2.1 z.2.2.1 z.2.2.2.1 z.2.2.2.2) f9 (x.1, nI idx, x.2.1, x.2.2.1, x.2.2.2) = some r9 ∧ lp (fun z : Int32 × (Nat → Int32) => m_X10_tellsAll_l5 t z.1 z.2) f10 (nI a, g10) = some r10 ∧ ((∃ e g', e ≤ 1000 ∧ r9.1 = 0 ∧ r9.2.2.1 = nI e ∧ r10 = .inl (nI e, g')) ∨ (r9.1 = 1 ∧ (∃ q, r10 = .inr q) ∧ Good (SG c n) n d a)) := by
  intro d
  induction d with
  | zero => intro a idx f9 f10 g0 w0 g10 hd; omega
  | succ d ih =>
    intro a idx f9 f10 g0 w0 g10 hd ha hi hc hf9 hf10
    obtain ⟨f9, rfl⟩ : ∃ f, f9 = f + 1 := ⟨f9 - 1, by omega⟩
    obtain ⟨f10, rfl⟩ : ∃ f, f10 = f + 1 := ⟨f10 - 1, by omega⟩
    have i120 : ¬ (120 : Int32) ≤ nI idx := nI_ge (b := 120) (by omega) (by omega)
    rcases stm (s := u3_word w0 (u3_at (nI a) (u3_numbers g0 s))) (t := u10_number g10 (u10_at (nI a) t)) h1 h2 k1 k2 hn rfl rfl ha with ⟨w, b, g, g', ok, hab, hb, e9, e10, hg⟩ | ⟨e, g, g', w', he, e9, e10, no⟩
    · have hw := ok.1
      have n9 : ¬ nI w = (-9 : Int32) := by
        have : ∀ w, w < 8 → ¬ nI w = (-9 : Int32) := by decide +kernel
        exact this w hw
      refine ⟨_, e9, ?_⟩
      by_cases q : b < n
      · have s10 : m_X10_tellsAll_l5 t (nI a) g10 = some (.inl (nI b, g')) := by
          unfold m_X10_tellsAll_l5
          rw [e10, Option.bind_some, if_neg n9, k1, if_pos ((nI_lti (by omega) (by omega)).2 q)]
        obtain ⟨x, ex, r9, r10, l9, l10, fin⟩ := ih b (idx + 1) f9 f10 g (nI w) g' (by omega) (by omega) (by omega) (Or.inl q) (by omega) (by omega)
        have s9 : m_X3_firstFault_l11 s 1 (nI idx) g (nI b) (nI w) = some (.inl (x.1, nI (idx + 1), x.2.1, x.2.2.1, x.2.2.2)) := by
          have hr : m_X3_isRead (u3_word (nI w) (u3_at (nI b) (u3_numbers g s))) = some 0 := by
            unfold m_X3_isRead
            rw [show p3_at (u3_word (nI w) (u3_at (nI b) (u3_numbers g s))) = nI b from rfl, show p3_size (u3_word (nI w) (u3_at (nI b) (u3_numbers g s))) = nI n from h1, if_pos ((nI_lti (by omega) (by omega)).2 q)]
          unfold m_X3_firstFault_l11
          rw [if_neg i120, if_neg (by decide), hr, Option.bind_some, if_pos rfl, ex, Option.bind_some, nI_1]
        refine ⟨r9, r10, ?_, ?_, ?_⟩
        · rw [lp_inl (s' := (x.1, nI (idx + 1), x.2.1, x.2.2.1, x.2.2.2)) s9]
          exact l9
        · rw [lp_inl (s' := (nI b, g')) s10]
          exact l10
        · rcases fin with fin | ⟨v1, v2, v3⟩
          · exact Or.inl fin
          · exact Or.inr ⟨v1, v2, w, b, ok, Or.inr ⟨q, v3⟩⟩
      · have s10 : m_X10_tellsAll_l5 t (nI a) g10 = some (.inr (.inr (nI b, g'))) := by
          unfold m_X10_tellsAll_l5
          rw [e10, Option.bind_some, if_neg n9, k1, if_neg (fun k => q ((nI_lti (by omega) (by omega)).1 k))]
        have s9 : m_X3_firstFault_l11 s 1 (nI idx) g (nI b) (nI w) = some (.inr (1, g, nI b, nI w)) := by
          have hr : m_X3_isRead (u3_word (nI w) (u3_at (nI b) (u3_numbers g s))) = some 1 := by
            unfold m_X3_isRead
            rw [show p3_at (u3_word (nI w) (u3_at (nI b) (u3_numbers g s))) = nI b from rfl, show p3_size (u3_word (nI w) (u3_at (nI b) (u3_numbers g s))) = nI n from h1, if_neg (fun k => q ((nI_lti (by omega) (by omega)).1 k))]
          unfold m_X3_firstFault_l11
          rw [if_neg i120, if_neg (by decide), hr, Option.bind_some, if_neg (by decide)]
        exact ⟨(1, g, nI b, nI w), .inr (nI b, g'), lp_inr s9, lp_inr s10, Or.inr ⟨rfl, ⟨_, rfl⟩, w, b, ok, Or.inl (by omega)⟩⟩
    · refine ⟨_, e9, (0, g, nI e, w'), .inl (nI e, g'), lp_inr ?_, lp_inr ?_, Or.inl ⟨e, g', he, rfl, rfl, rfl⟩⟩
      · show m_X3_firstFault_l11 s 0 (nI idx) g (nI e) w' = _
        unfold m_X3_firstFault_l11
        rw [if_neg i120, if_pos rfl]
      · show m_X10_tellsAll_l5 t (nI a) g10 = _
        unfold m_X10_tellsAll_l5
        rw [e10, Option.bind_some, if_pos rfl]
theorem ff_all {s : T3} {t : T10} {n : Nat} {c : Nat → Nat} (h1 : p3_size s = nI n) (h2 : Eqn (p3_signs s) c n) (k1 : p10_letters t = nI n) (k2 : Eqn (p10_letter t) c n) (hn : n ≤ 120) : ∃ u r, m_X3_firstFault s = some u ∧ lp (fun z : Int32 × (Nat → Int32) => m_X10_tellsAll_l5 t z.1 z.2) fu (0, p10_number t) = some r ∧ ((∃ e g', e ≤ 1000 ∧ u.1 = nI e ∧ r = .inl (nI e, g')) ∨ (u.1 = -1 ∧ (∃ q, r = .inr q) ∧ Good (SG c n) n 121 0)) := by
  obtain ⟨x, ex, r9, r10, l9, l10, fin⟩ := ff_rel h1 h2 k1 k2 hn 121 0 0 fu fu (p3_numbers s) (p3_word s) (p10_number t) (by omega) (by omega) (by omega) (Or.inr rfl) (show 121 < 300 by decide) (show 121 < 300 by decide)
  have ex : m_X3_readStatement (u3_at 0 s) = some x := ex
  have l9 : lp (fun z : Int32 × Int32 × (Nat → Int32) × Int32 × Int32 => m_X3_firstFault_l11 s z.1 z.2.1 z.2.2.1 z.2.2.2.1 z.2.2.2.2) fu (x.1, 0, x.2.1, x.2.2.1, x.2.2.2) = some r9 := l9
  have e : m_X3_firstFault s = some (if r9.1 = 0 then (r9.2.2.1, r9.2.1, r9.2.2.1, r9.2.2.2) else (-1, r9.2.1, r9.2.2.1, r9.2.2.2)) := by
    unfold m_X3_firstFault m_X3_readFromFront
    rw [Option.bind_some, ex, Option.bind_some, l9, Option.bind_some]
    split <;> rfl
  refine ⟨_, r10, e, l10, ?_⟩
  rcases fin with ⟨e, g', he, v1, v2, v3⟩ | ⟨v1, v2, v3⟩
  · left
    refine ⟨e, g', he, ?_, v3⟩
    rw [if_pos v1]; exact v2
  · right
    refine ⟨?_, v2, v3⟩
    rw [if_neg (by rw [v1]; decide)]
