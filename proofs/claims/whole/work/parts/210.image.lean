/-! image -/
theorem Rel_mkI {s9 s9' : T9} {s10 s10' : T10} (rL : RelL s9 s10) (rT : RelT s9 s10) (rH : RelH s9 s10) (rS : sbInv (p9_said s9)) (rB : RelB s9) (a_letters : p9_letters s9' = p9_letters s9) (a_told : p9_told s9' = p9_told s9) (a_toldCount : p9_toldCount s9' = p9_toldCount s9) (a_shelves : p9_shelves s9' = p9_shelves s9) (a_said : p9_said s9' = p9_said s9) (a_byRules : p9_byRules s9' = p9_byRules s9) (b_letters : p10_letters s10' = p10_letters s10) (b_letter : p10_letter s10' = p10_letter s10) (b_tolds : p10_tolds s10' = p10_tolds s10) (b_told : p10_told s10' = p10_told s10) (b_places : p10_places s10' = p10_places s10) (b_cell : p10_cell s10' = p10_cell s10) {A : Sh} (hok : okS A) (h6 : S6 (p9_now s9') A) (h10 : S10 s10' A) (rI : RelI s9' s10') (rR : Req (p9_refusals s9') (p10_refusals s10')) : Rel s9' s10' := by
  refine ⟨A, hok, h6, h10, rI, ?_, ?_, ?_, rR, ?_, ?_⟩
  · unfold RelL
    rw [a_letters, b_letters, b_letter]
    exact rL
  · unfold RelT
    rw [a_told, a_toldCount, b_tolds, b_told]
    exact rT
  · unfold RelH
    rw [a_shelves, b_places, b_cell]
    exact rH
  · rw [a_said]
    exact rS
  · unfold RelB
    rw [a_byRules]
    exact rB
theorem op_image : OP_image Rel := by
  intro s9 s10 ⟨A, hok, h6, h10, rI, rL, rT, rH, rR, rS, rB⟩
  obtain ⟨u, e1, q1⟩ := copy6 (s := p9_kept s9) h6 hok
  have h10' : S10 (u10_hasImage 1 s10) A := by
    obtain ⟨b1, ⟨b2, b3, b4, b5, b6⟩, ⟨b7, b8, b9⟩, ⟨b10, b11⟩, b12⟩ := h10
    exact ⟨b1, ⟨b2, b3, b4, b5, b6⟩, ⟨b7, b8, b9⟩, ⟨b10, b11⟩, b12⟩
  obtain ⟨g, e2, q2⟩ := keeps10 h10' hok
  refine ⟨(p6_papers (p9_now s9), u.1, u.2.1, u.2.2.1, u.2.2.2.1, u.2.2.2.2.1, u.2.2.2.2.2.1, u.2.2.2.2.2.2.1, u.2.2.2.2.2.2.2.1, u.2.2.2.2.2.2.2.2.1, u.2.2.2.2.2.2.2.2.2.1, u.2.2.2.2.2.2.2.2.2.2.1, u.2.2.2.2.2.2.2.2.2.2.2, 1), (p10_papers s10, g, 1), ?_, ?_, h6.1.trans h10.1.symm, Rel_mkI rL rT rH rS rB (by dsimp only [st_X9_image, u9_isKept, u9_kept, p9_letters]) (by dsimp only [st_X9_image, u9_isKept, u9_kept, p9_told]) (by dsimp only [st_X9_image, u9_isKept, u9_kept, p9_toldCount]) (by dsimp only [st_X9_image, u9_isKept, u9_kept, p9_shelves]) (by dsimp only [st_X9_image, u9_isKept, u9_kept, p9_said]) (by dsimp only [st_X9_image, u9_isKept, u9_kept, p9_byRules]) (by dsimp only [st_X10_image, u10_hasImage, u10_imaged, p10_letters]) (by dsimp only [st_X10_image, u10_hasImage, u10_imaged, p10_letter]) (by dsimp only [st_X10_image, u10_hasImage, u10_imaged, p10_tolds]) (by dsimp only [st_X10_image, u10_hasImage, u10_imaged, p10_told]) (by dsimp only [st_X10_image, u10_hasImage, u10_imaged, p10_places]) (by dsimp only [st_X10_image, u10_hasImage, u10_imaged, p10_cell]) hok (by dsimp only [st_X9_image, u9_isKept, u9_kept, p9_now]; exact h6) ?_ (Or.inr ⟨rfl, rfl, A, hok, q1, q2⟩) (by dsimp only [st_X9_image, st_X10_image, u9_isKept, u9_kept, p9_refusals, u10_hasImage, u10_imaged, p10_refusals]; exact rR)⟩
  · unfold m_X9_image m_X6_paperCount
    rw [e1, Option.bind_some, Option.bind_some]
  · unfold m_X10_image
    rw [e2, Option.bind_some]
  · obtain ⟨b1, ⟨b2, b3, b4, b5, b6⟩, ⟨b7, b8, b9⟩, ⟨b10, b11⟩, b12⟩ := h10
    exact ⟨b1, ⟨b2, b3, b4, b5, b6⟩, ⟨b7, b8, b9⟩, ⟨b10, b11⟩, b12⟩
