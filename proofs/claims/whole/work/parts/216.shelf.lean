/-! shelf -/
def zro (f : Nat → Int64) (a k : Nat) : Nat → Int64 := fun c => if a ≤ c ∧ c < a + k then 0 else f c
theorem zro_0 (f : Nat → Int64) (a : Nat) : zro f a 0 = f := by
  funext c
  unfold zro
  rw [if_neg (by omega)]
theorem zro_s (f : Nat → Int64) (a k : Nat) : vp_updL (zro f a k) (a + k) 0 = zro f a (k + 1) := by
  funext c
  by_cases q : c = a + k
  · subst q
    rw [updL_at]
    unfold zro
    rw [if_pos (by omega)]
  · rw [updL_ne q]
    unfold zro
    by_cases q2 : a ≤ c ∧ c < a + k
    · rw [if_pos q2, if_pos (by omega)]
    · rw [if_neg q2, if_neg (by omega)]
theorem make7 {s : T7} {j n : Nat} (hj : j < 4) (hn : n ≤ 20) : m_X7_make s (nI j) (nI n) = some (zro (p7_cells s) (20 * j) n, upd (p7_sizes s) j (nI n), upd (p7_made s) j 1) := by
  have key : lp (fun z : Int32 × (Nat → Int64) => m_X7_make_l20 s (nI j) (nI n) (upd (p7_made s) j 1) (upd (p7_sizes s) j (nI n)) z.1 z.2) fu ((0 : Int32), p7_cells s) = some (zro (p7_cells s) (20 * j) n) := by
    refine lp_for (fun k => (nI k, zro (p7_cells s) (20 * j) k)) n (fun k hk => ?_) ?_ (by omega) ?_
    · simp only [m_X7_make_l20]
      rw [if_neg (nI_ge hk (by omega)), set7 (by omega), Option.bind_some, nI_1]
      exact congrArg (fun f => some (Sum.inl (nI (k + 1), f))) (zro_s _ _ _)
    · simp only [m_X7_make_l20]
      rw [if_pos (nI_le (Nat.le_refl _) (by omega))]
    · show _ = (nI 0, zro (p7_cells s) (20 * j) 0)
      rw [zro_0]
      rfl
  unfold m_X7_make
  rw [set_in hj (by decide), Option.bind_some, set_in hj (by decide), Option.bind_some, key, Option.bind_some]
theorem wipe10 {f : Nat → Int64} {j : Nat} (hj : j < 4) : lp (fun z : Int32 × (Nat → Int64) => m_X10_shelf_l42 (nI j) z.1 z.2) fu ((0 : Int32), f) = some (zro f (20 * j) 20) := by
  refine lp_for (fun k => (nI k, zro f (20 * j) k)) 20 (fun k hk => ?_) ?_ (by decide) ?_
  · simp only [m_X10_shelf_l42]
    rw [if_neg (by rw [i_le, nI_toInt (by omega), show (20 : Int32).toInt = 20 from rfl]; omega), cell10, if_pos (inb_nI (by omega) (by decide)), nI_clamp (by omega), nI_1]
    exact congrArg (fun f => some (Sum.inl (nI (k + 1), f))) (zro_s _ _ _)
  · simp only [m_X10_shelf_l42]
    exact if_pos (show (20 : Int32) ≤ nI 20 by decide)
  · show _ = (nI 0, zro f (20 * j) 0)
    rw [zro_0]
    rfl
