-- the class's text of a paper
noncomputable def othP (A : Sh) (p : Nat) : Nat := dif (prd A (sme A (vU A 0 0) (vD A 0 0)) (2 ^ p) (hN A)) (2 ^ p)
noncomputable def grP (A : Sh) (p : Nat) : Nat := grd A (nI (vU A 0 0 p)).toInt64 (nI (vD A 0 0 p)).toInt64 (hB A)
noncomputable def txtP (A : Sh) (p : Nat) : List Nat := sayL p (mkA A p) (vU A 0 0 p) (vD A 0 0 p) (grP A p) ++ (oth (othP A p) 7).2
theorem sbT {b : TSB} (h : sbInv b) : ∃ l : List Nat, pSB_n b = nI l.length ∧ ∃ m f q, m_J4_setLength_d00df b 0 = some (m, f, q, 0) ∧ TXl m f 0 [] := by
  obtain ⟨k, h1, h2, h3, h4, h5, h6⟩ := h
  have ens : ∃ m' f', m_J5_ensure b 0 = some (m', f') ∧ 16 ≤ m' ∧ m' ≤ 200 ∧ fitAll m' f' = true := by
    refine ⟨pSB_m b, pSB_f b, ?_, h4, h5, h6⟩
    show m_J5_ensure b (nI 0) = _
    unfold m_J5_ensure
    rw [if_pos ((ens_if (q := 0) h5 (by omega)).2 (Nat.zero_le _))]
  obtain ⟨m', f', e, g1, g2, g3⟩ := ens
  refine ⟨List.replicate k 0, by rw [List.length_replicate]; exact h1, m', f', if pSB_n b ≤ 0 then pSB_l b else 1, ?_, rfl, by decide, Nat.zero_le _, g1, g2, g3, fun i hi => absurd hi (Nat.not_lt_zero i)⟩
  unfold m_J4_setLength_d00df m_J5_setLength_d00df
  rw [if_pos (by decide), e, Option.bind_some, if_pos (by rw [h1]; exact (nI_lei (a := 0) (by omega) (by omega)).2 (by omega))]
  split <;> rfl
