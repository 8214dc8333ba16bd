-- a statement on both sides
def OKA (S : Nat → Int32) (a w b : Nat) : Prop := w < 8 ∧ alk S a w = lnW w ∧ (rdN S (nmW w) 0 (a + lnW w) (fun _ => 0)).1 = true ∧ (rdN S (nmW w) 0 (a + lnW w) (fun _ => 0)).2.1 + 1 = b ∧ S (rdN S (nmW w) 0 (a + lnW w) (fun _ => 0)).2.1 = 59
theorem OKA_one {S : Nat → Int32} {a w b v d : Nat} (h : OKA S a w b) (k : OKA S a v d) : w = v ∧ b = d := by
  obtain ⟨h1, h2, h3, h4, h5⟩ := h
  obtain ⟨k1, k2, k3, k4, k5⟩ := k
  have e := alk_one h1 k1 h2 k2
  subst e
  exact ⟨rfl, by omega⟩
theorem SG_lt {c : Nat → Nat} {n k : Nat} (h : SG c n k = 59) : k < n := by
  unfold SG at h
  split at h
  · assumption
  · exact absurd h (by decide)
theorem stm {s : T3} {t : T10} {n a : Nat} {c : Nat → Nat} (h1 : p3_size s = nI n) (h2 : Eqn (p3_signs s) c n) (k1 : p10_letters t = nI n) (k2 : Eqn (p10_letter t) c n) (hn : n ≤ 120) (h4 : p3_at s = nI a) (k4 : p10_at t = nI a) (ha : a ≤ n) :
    (∃ w b g g', OKA (SG c n) a w b ∧ a < b ∧ b ≤ n ∧ m_X3_readStatement s = some (1, g, nI b, nI w) ∧ m_X10_statement t = some (nI w, nI b, g') ∧ ∀ i, i < nmW w → g i = g' i) ∨ (∃ e g g' w', e ≤ 1000 ∧ m_X3_readStatement s = some (0, g, nI e, w') ∧ m_X10_statement t = some (-9, nI e, g') ∧ ∀ w b, ¬ OKA (SG c n) a w b) := by
  rcases Classical.em (∃ w, w < 8 ∧ alk (SG c n) a w = lnW w) with ⟨w, hw, hq⟩ | hq
  · obtain ⟨l1, l2, l3⟩ := lnW_ok w hw
    have hm3 := nmW_le w hw
    have e9 := nums9 (s := u3_word (nI w) (u3_at (nI (a + lnW w)) s)) (a := a + lnW w) h1 h2 hn hw rfl rfl (by omega)
    obtain ⟨g1, g2, g3, g4, g5⟩ := rdN_g (SG c n) (nmW w) 0 (a + lnW w) (p3_numbers s) (fun _ => 0)
    obtain ⟨f1, f2, f3, f4, f5⟩ := rdN_g (SG c n) (nmW w) 0 (a + lnW w) (p10_number t) (fun _ => 0)
    have e9 : m_X3_readNumbers (u3_word (nI w) (u3_at (nI (a + lnW w)) s)) = some (if (rdN (SG c n) (nmW w) 0 (a + lnW w) (p3_numbers s)).1 = true then 1 else 0, (rdN (SG c n) (nmW w) 0 (a + lnW w) (p3_numbers s)).2.2, nI (rdN (SG c n) (nmW w) 0 (a + lnW w) (p3_numbers s)).2.1) := e9
    have e10 := num10 k1 k2 hn hw (nI (a + lnW w)) (nmW w) 0 (a + lnW w) (p10_number t) fu (show nmW w < 300 by omega) (by omega) (by omega)
    have e10 : lp (fun z : Int32 × Int32 × (Nat → Int32) => m_X10_statement_l16 t (nI w, nI (a + lnW w)) z.1 z.2.1 z.2.2) fu (0, nI (a + lnW w), p10_number t) = some (if (rdN (SG c n) (nmW w) 0 (a + lnW w) (p10_number t)).1 = true then .inr (nI (rdN (SG c n) (nmW w) 0 (a + lnW w) (p10_number t)).2.1, (rdN (SG c n) (nmW w) 0 (a + lnW w) (p10_number t)).2.2) else .inl (nI (rdN (SG c n) (nmW w) 0 (a + lnW w) (p10_number t)).2.1, (rdN (SG c n) (nmW w) 0 (a + lnW w) (p10_number t)).2.2)) := e10
    have u9 : m_X3_readWord s = some (1, nI (a + lnW w), nI w) := word9y h1 h2 hn h4 (by omega) hw hq
    have u10 : m_X10_readWord t = some (nI w, nI (a + lnW w)) := word10y k1 k2 hn k4 (by omega) hw hq
    have n9 : ∀ w, w < 8 → ¬ nI w = (-9 : Int32) := by decide +kernel
    by_cases q : (rdN (SG c n) (nmW w) 0 (a + lnW w) (fun _ => 0)).1 = true
    · rw [if_pos (g1.trans q), g2] at e9
      rw [if_pos (f1.trans q), f2] at e10
      have hp4 : (rdN (SG c n) (nmW w) 0 (a + lnW w) (fun _ => 0)).2.1 ≤ 200 := by omega
      have hge : a + lnW w ≤ (rdN (SG c n) (nmW w) 0 (a + lnW w) (fun _ => 0)).2.1 := by omega
      have hgg : ∀ i, i < nmW w → (rdN (SG c n) (nmW w) 0 (a + lnW w) (p3_numbers s)).2.2 i = (rdN (SG c n) (nmW w) 0 (a + lnW w) (p10_number t)).2.2 i := fun i hi => (g3 (g1.trans q) i (by omega) (Or.inl (Nat.zero_le _))).trans (f3 (f1.trans q) i (by omega) (Or.inl (Nat.zero_le _))).symm
      generalize hG : (rdN (SG c n) (nmW w) 0 (a + lnW w) (p3_numbers s)).2.2 = G at e9 hgg
      generalize hF : (rdN (SG c n) (nmW w) 0 (a + lnW w) (p10_number t)).2.2 = F at e10 hgg
      generalize hP : (rdN (SG c n) (nmW w) 0 (a + lnW w) (fun _ => 0)).2.1 = P at e9 e10 hp4 hge
      have z9 : m_X3_readEnd (u3_word (nI w) (u3_at (nI P) (u3_numbers G s))) = some (if SG c n P = 59 then (1, nI P + 1) else (0, nI P)) := by
        unfold m_X3_readEnd
        rw [show p3_at (u3_word (nI w) (u3_at (nI P) (u3_numbers G s))) = nI P from rfl, sign9 (s := u3_word (nI w) (u3_at (nI P) (u3_numbers G s))) h1 h2 hn (by omega), Option.bind_some]
        by_cases q2 : SG c n P = 59
        · rw [if_pos q2, if_pos q2]
        · rw [if_neg q2, if_neg q2]
      have z10 : m_X10_takes (u10_number F (u10_at (nI P) t)) 59 = some (if SG c n P = 59 then (1, nI P + 1) else (0, nI P)) := by
        unfold m_X10_takes
        rw [here10 (t := u10_number F (u10_at (nI P) t)) (k := P) k1 k2 hn (by omega) rfl, Option.bind_some, show p10_at (u10_number F (u10_at (nI P) t)) = nI P from rfl]
        by_cases q2 : SG c n P = 59
        · rw [if_pos q2, if_pos q2]
        · rw [if_neg q2, if_neg q2]
      have r9 : m_X3_readStatement s = some (if SG c n P = 59 then (1, G, nI P + 1, nI w) else (0, G, nI P, nI w)) := by
        unfold m_X3_readStatement
        rw [u9, Option.bind_some, if_neg (show ¬ (1 : Int32) = 0 by decide), e9, Option.bind_some, if_neg (show ¬ (1 : Int32) = 0 by decide), z9, Option.bind_some]
        by_cases q2 : SG c n P = 59
        · rw [if_pos q2, if_pos q2, if_neg (show ¬ (1 : Int32) = 0 by decide)]
        · rw [if_neg q2, if_neg q2, if_pos (show (0 : Int32) = 0 from rfl)]
      have r10 : m_X10_statement t = some (if SG c n P = 59 then (nI w, nI P + 1, F) else (-9, nI P, F)) := by
        unfold m_X10_statement
        rw [u10, Option.bind_some, if_neg (n9 w hw), e10, Option.bind_some]
        show Option.bind (m_X10_takes (u10_number F (u10_at (nI P) t)) 59) _ = _
        rw [z10, Option.bind_some]
        by_cases q2 : SG c n P = 59
        · rw [if_pos q2, if_pos q2, if_neg (show ¬ (1 : Int32) = 0 by decide)]
        · rw [if_neg q2, if_neg q2, if_pos (show (0 : Int32) = 0 from rfl)]
      by_cases q2 : SG c n P = 59
      · rw [if_pos q2, nI_1] at r9 r10
        have := SG_lt q2
        exact Or.inl ⟨w, P + 1, G, F, ⟨hw, hq, q, by rw [hP], by rw [hP]; exact q2⟩, by omega, by omega, r9, r10, hgg⟩
      · rw [if_neg q2] at r9 r10
        refine Or.inr ⟨P, G, F, nI w, by omega, r9, r10, fun v d ⟨p1, p2, p3, p4, p5⟩ => ?_⟩
        have e := alk_one p1 hw p2 hq
        subst e
        rw [hP] at p5
        exact q2 p5
    · have q' : ¬ (rdN (SG c n) (nmW w) 0 (a + lnW w) (p3_numbers s)).1 = true := fun k => q (g1.symm.trans k)
      have q'' : ¬ (rdN (SG c n) (nmW w) 0 (a + lnW w) (p10_number t)).1 = true := fun k => q (f1.symm.trans k)
      rw [if_neg q', g2] at e9
      rw [if_neg q'', f2] at e10
      refine Or.inr ⟨(rdN (SG c n) (nmW w) 0 (a + lnW w) (fun _ => 0)).2.1, (rdN (SG c n) (nmW w) 0 (a + lnW w) (p3_numbers s)).2.2, (rdN (SG c n) (nmW w) 0 (a + lnW w) (p10_number t)).2.2, nI w, by omega, ?_, ?_, fun v d ⟨p1, p2, p3, p4, p5⟩ => ?_⟩
      · unfold m_X3_readStatement
        rw [u9, Option.bind_some, if_neg (show ¬ (1 : Int32) = 0 by decide), e9, Option.bind_some, if_pos (show (0 : Int32) = 0 from rfl)]
      · unfold m_X10_statement
        rw [u10, Option.bind_some, if_neg (n9 w hw), e10, Option.bind_some]
      · have e := alk_one p1 hw p2 hq
        subst e
        exact q p3
  · have hq' : ∀ w, w < 8 → alk (SG c n) a w ≠ lnW w := fun w hw k => hq ⟨w, hw, k⟩
    have hm : mxW (alk (SG c n) a) 8 ≤ 10 := mxW_le (fun w hw => Nat.le_trans (alk_le _ _ _) (lnW_le (by omega)))
    refine Or.inr ⟨a + mxW (alk (SG c n) a) 8, p3_numbers s, p10_number t, p3_word s, by omega, ?_, ?_, fun v d k => hq ⟨v, k.1, k.2.1⟩⟩
    · unfold m_X3_readStatement
      rw [word9n h1 h2 hn h4 (by omega) hq', Option.bind_some, if_pos (show (0 : Int32) = 0 from rfl)]
    · unfold m_X10_statement
      rw [word10n k1 k2 hn k4 (by omega) hq', Option.bind_some, if_pos (show (-9 : Int32) = -9 from rfl)]
