-- the call says
theorem txtP_len {A : Sh} (hok : okS A) {p : Nat} (hp : p < hN A) : (txtP A p).length ≤ 36 := by
  have n7 := hok.1.1
  obtain ⟨v1, v2, v3, v4⟩ := val_bd hok (l := 0) (by decide) (W := 0) hp
  have h1 := sayL_len (p := p) (m := mkA A p) (u := vU A 0 0 p) (d := vD A 0 0 p) (g := grP A p) (by omega) (mkA_le hok hp) v2
  have h2 := (oth_len (othP A p) 7 (by omega)).1
  unfold txtP
  rw [List.length_append]
  omega
theorem sb_of {m : Nat} {f : Nat → Int32} {n : Int32} {l : List Nat} (h : TXl m f n l) (hl : l.length ≤ 40) (a : Nat) (q : Int32) : sbInv (a, m, f, q, n) := by
  obtain ⟨h1, h2, h3, h4, h5, h6, h7⟩ := h
  exact ⟨l.length, h1, hl, h3, h4, h5, h6⟩
theorem tx_at {b : TSB} {l : List Nat} (h : TXl (pSB_m b) (pSB_f b) (pSB_n b) l) {i : Nat} (hi : i < l.length) : m_J4_charAt_5068e b (nI i) = some (nI (l.getD i 0)) := charat h hi
