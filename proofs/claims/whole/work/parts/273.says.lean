-- texts as lists of signs
def TXl (m : Nat) (f : Nat → Int32) (n : Int32) (l : List Nat) : Prop := TXc m f n l.length (fun i => l.getD i 0)
def SDl (r : Nat → Int32) (n : Int32) (l : List Nat) : Prop := SDc r n l.length (fun i => l.getD i 0)
def DGv (v : Nat) : List Nat := (List.range (lnN v)).map (dgt v (lnN v))
def WDw (w : Nat) : List Nat := (List.range (lnB w)).map (chB w)
theorem DGv_len (v : Nat) : (DGv v).length = lnN v := by unfold DGv; rw [List.length_map, List.length_range]
theorem WDw_len (w : Nat) : (WDw w).length = lnB w := by unfold WDw; rw [List.length_map, List.length_range]
theorem WD_9 : WDw 9 = [44] := by decide +kernel
theorem getD_app (l x : List Nat) (i : Nat) : (l ++ x).getD i 0 = if i < l.length then l.getD i 0 else x.getD (i - l.length) 0 := by
  rw [List.getD_eq_getElem?_getD, List.getD_eq_getElem?_getD, List.getD_eq_getElem?_getD]
  by_cases q : i < l.length
  · rw [if_pos q, List.getElem?_append_left q]
  · rw [if_neg q, List.getElem?_append_right (by omega)]
theorem getD_map (g : Nat → Nat) (L : Nat) {j : Nat} (h : j < L) : ((List.range L).map g).getD j 0 = g j := by
  rw [List.getD_eq_getElem?_getD, List.getElem?_map, List.getElem?_range h]
  rfl
theorem TXc_cg {m : Nat} {f : Nat → Int32} {n : Int32} {k : Nat} {c d : Nat → Nat} (h : TXc m f n k c) (e : ∀ i, i < k → c i = d i) : TXc m f n k d := by
  obtain ⟨h1, h2, h3, h4, h5, h6, h7⟩ := h
  exact ⟨h1, h2, h3, h4, h5, h6, fun i hi => by rw [← e i hi]; exact h7 i hi⟩
theorem SDc_cg {r : Nat → Int32} {n : Int32} {k : Nat} {c d : Nat → Nat} (h : SDc r n k c) (e : ∀ i, i < k → c i = d i) : SDc r n k d := ⟨h.1, h.2.1, fun i hi => by rw [← e i hi]; exact h.2.2 i hi⟩
theorem cg_c (l : List Nat) (a : Nat) : ∀ i, i < l.length + 1 → (if i = l.length then a else l.getD i 0) = (l ++ [a]).getD i 0 := by
  intro i hi
  rw [getD_app]
  by_cases e : i = l.length
  · rw [if_pos e, if_neg (by omega), e, Nat.sub_self]; rfl
  · rw [if_neg e, if_pos (by omega)]
theorem cg_n (l : List Nat) (v : Nat) : ∀ i, i < l.length + lnN v → (if i < l.length then l.getD i 0 else dgt v (l.length + lnN v) i) = (l ++ DGv v).getD i 0 := by
  intro i hi
  rw [getD_app]
  by_cases q : i < l.length
  · rw [if_pos q, if_pos q]
  · rw [if_neg q, if_neg q]
    unfold DGv
    rw [getD_map _ _ (by omega)]
    unfold dgt
    rw [show l.length + lnN v - 1 - i = lnN v - 1 - (i - l.length) by omega]
theorem cg_s (l : List Nat) (w : Nat) : ∀ i, i < l.length + lnB w → (if i < l.length then l.getD i 0 else chB w (i - l.length)) = (l ++ WDw w).getD i 0 := by
  intro i hi
  rw [getD_app]
  by_cases q : i < l.length
  · rw [if_pos q, if_pos q]
  · rw [if_neg q, if_neg q]
    unfold WDw
    rw [getD_map _ _ (by omega)]
theorem tx_c {b : TSB} {l : List Nat} (h : TXl (pSB_m b) (pSB_f b) (pSB_n b) l) (hk : l.length < 60) {a : Nat} (ha : a < 128) : ∃ m f n, m_J4_append_cf468 b (nI a) = some (m, f, n) ∧ TXl m f n (l ++ [a]) := by
  obtain ⟨m, f, e, t⟩ := app_c h hk ha
  refine ⟨m, f, _, e, ?_⟩
  have t := TXc_cg t (cg_c l a)
  unfold TXl
  rw [List.length_append]
  exact t
theorem tx_n {b : TSB} {l : List Nat} (h : TXl (pSB_m b) (pSB_f b) (pSB_n b) l) {v : Nat} (hv : v < 16000) (hk : l.length + lnN v ≤ 60) : ∃ m f n, m_J4_append_bf812 b (nI v) = some (m, f, n) ∧ TXl m f n (l ++ DGv v) := by
  obtain ⟨m, f, e, t⟩ := app_n h hv hk
  refine ⟨m, f, _, e, ?_⟩
  have t := TXc_cg t (cg_n l v)
  unfold TXl
  rw [List.length_append, DGv_len]
  exact t
theorem tx_s {b : TSB} {l : List Nat} (h : TXl (pSB_m b) (pSB_f b) (pSB_n b) l) {w : Nat} (hw : w < 10) (hk : l.length + lnB w ≤ 60) : ∃ m f n, m_J4_append_15ec4 b w = some (m, f, n) ∧ TXl m f n (l ++ WDw w) := by
  obtain ⟨m, f, e, t⟩ := app_s h hw hk
  refine ⟨m, f, _, e, ?_⟩
  have t := TXc_cg t (cg_s l w)
  unfold TXl
  rw [List.length_append, WDw_len]
  exact t
theorem sd_c {s : T10} {l : List Nat} (h : SDl (p10_said s) (p10_saids s) l) (hk : l.length < 60) (a : Nat) : ∃ r n, m_X10_say s (nI a) = some (r, n) ∧ SDl r n (l ++ [a]) := by
  obtain ⟨r, e, t⟩ := say10 h hk a
  refine ⟨r, _, e, ?_⟩
  have t := SDc_cg t (cg_c l a)
  unfold SDl
  rw [List.length_append]
  exact t
theorem sd_n {s : T10} {l : List Nat} (h : SDl (p10_said s) (p10_saids s) l) {v : Nat} (hv : v < 16000) (hk : l.length + lnN v ≤ 60) : ∃ r n, m_X10_sayNumber s (J (v : Int)) = some (r, n) ∧ SDl r n (l ++ DGv v) := by
  obtain ⟨r, e, t⟩ := num_say h hv hk
  refine ⟨r, _, e, ?_⟩
  have t := SDc_cg t (cg_n l v)
  unfold SDl
  rw [List.length_append, DGv_len]
  exact t
def Rw (f : Nat → Int32) (w k j i : Nat) : Int32 := if k ≤ i ∧ i < k + j then nI (chB w (i - k)) else f i
theorem Rw_step (f : Nat → Int32) (w k j : Nat) : upd (Rw f w k j) (k + j) (nI (chB w j)) = Rw f w k (j + 1) := by
  funext i
  unfold Rw
  by_cases e : i = k + j
  · rw [e, upd_at, if_pos ⟨by omega, by omega⟩, show k + j - k = j by omega]
  · rw [upd_ne e]
    by_cases q : k ≤ i ∧ i < k + j
    · rw [if_pos q, if_pos ⟨by omega, by omega⟩]
    · rw [if_neg q, if_neg (by omega)]
theorem Rw_0 (f : Nat → Int32) (w k : Nat) : Rw f w k 0 = f := by
  funext i
  unfold Rw
  rw [if_neg (by omega)]
theorem sd_s {s : T10} {l : List Nat} (h : SDl (p10_said s) (p10_saids s) l) {w : Nat} (hw : w < 10) (hk : l.length + lnB w ≤ 60) : ∃ r n, m_X10_sayWord s w = some (r, n) ∧ SDl r n (l ++ WDw w) := by
  obtain ⟨l1, l2⟩ := lnB_ok w hw
  obtain ⟨h1, h2, h3⟩ := h
  have e : lp (fun z : Int32 × (Nat → Int32) × Int32 => m_X10_sayWord_l2 s w z.1 z.2.1 z.2.2) fu (0, p10_said s, p10_saids s) = some (Rw (p10_said s) w l.length (lnB w), nI (l.length + lnB w)) := by
    refine lp_for (fun j => (nI j, Rw (p10_said s) w l.length j, nI (l.length + j))) (lnB w) (fun j hj => ?_) ?_ (by omega) ?_
    · show m_X10_sayWord_l2 s w (nI j) (Rw (p10_said s) w l.length j) (nI (l.length + j)) = _
      unfold m_X10_sayWord_l2 m_X10_say
      rw [if_pos hw, l1, Option.bind_some, if_neg (nI_ge hj (by omega)), if_pos hw, (chB_ok w hw j hj).2.2, Option.bind_some, show p10_saids (u10_saids (nI (l.length + j)) (u10_said (Rw (p10_said s) w l.length j) s)) = nI (l.length + j) from rfl, show p10_said (u10_saids (nI (l.length + j)) (u10_said (Rw (p10_said s) w l.length j) s)) = Rw (p10_said s) w l.length j from rfl, if_pos (inb_nI (by omega) (by decide)), Option.bind_some, nI_clamp (by omega), nI_1, nI_1]
      dsimp only
      rw [Rw_step]
      rfl
    · show m_X10_sayWord_l2 s w (nI (lnB w)) (Rw (p10_said s) w l.length (lnB w)) (nI (l.length + lnB w)) = _
      unfold m_X10_sayWord_l2
      rw [if_pos hw, l1, Option.bind_some, if_pos ((nI_lei (by omega) (by omega)).2 (Nat.le_refl _))]
    · rw [h1]
      show _ = (nI 0, Rw (p10_said s) w l.length 0, nI (l.length + 0))
      rw [Rw_0]
      rfl
  refine ⟨Rw (p10_said s) w l.length (lnB w), nI (l.length + lnB w), ?_, ?_⟩
  · unfold m_X10_sayWord
    rw [e, Option.bind_some]
  · unfold SDl
    rw [List.length_append, WDw_len]
    refine ⟨rfl, hk, fun i hi => ?_⟩
    dsimp only
    rw [← cg_s l w i hi]
    unfold Rw
    by_cases q : i < l.length
    · rw [if_neg (by omega), if_pos q]; exact h3 i q
    · rw [if_pos ⟨by omega, hi⟩, if_neg q]
