section CALLS
variable {p : Program} {l : Launch} {e : Env} {R : Room} {s : State} {m : MethodId} {args : Array Value} {below : List Frame} {meth : Method} {c : Code} {H : Heap} {locs : List Loc} {cells slots : Nat} {Q : State → Prop}
variable {cc : ByteArray} {pc : Nat} {ls : Array Slot} {rest st0 : List Value} {g : GG} {y : MethodName} {b : ByteArray} {ml nL n idx : Nat} {ret : Option FieldType} {rm : Room} {Wc ws : va_W} {Qf : (Nat → Prop) → Array Value → State → Outcome → State → Prop} {mc ms : Nat} {own C : String} {a ci N : Nat} {T : u_T} {fs : List Value} {As : List Value} {A0 : Nat → Prop}
variable {ρ : Type} {mm : Option ρ} {W1 : ρ → va_W} {ar : Array Value} {H0 : Heap}
/-- calls that write their cells: int, long, nothing -/
theorem cI {ty : FieldType} {val : ρ → Int32} (hP : va_P g.1 vwCl ws H) (hD : va_D A0 ws) (hS : va_S A0 H0 H locs) (hA : ∀ q, H0.size ≤ q → A0 q)
    (hE : SK g A0 s H0)
    (hr : va_P g.1 vwCl Wc H → va_D A0 Wc → SK g (va_A Wc H.size) s H → va_Run p l e R s m args below meth c H locs cells slots mc ms (F0 m pc ls st0) rest (Qi g ty mm val W1 (va_A Wc H.size) ar) (va_A Wc H.size))
    (rs : List (Nat × Nat)) (hC0 : sel ws rs = Wc) (hri : rin ws rs = true) (hrk : rok rs = true) (ha : ∀ u, (W1 u).map Prod.fst = Wc.map Prod.fst)
    (kk : ∀ (u : ρ) (H1 : Heap) (locs1 : List Loc), mm = some u → narrow ty (.int (val u)) = .int (val u) → va_P g.1 vwCl (spl ws rs (W1 u)) H1 → va_D A0 (spl ws rs (W1 u)) → va_S A0 H0 H1 locs1 → W p l e R s m args below meth c H1 locs1 (cells + mc) (slots + ms) Q (F0 m (pc + 3) ls (.int (val u) :: rest))) :
    W p l e R s m args below meth c H locs cells slots Q (F0 m pc ls st0) := by
  have hC := sel_at (rin_of hri) hC0
  have hnd := rok_nd hrk
  have hFc := va_free (wc := Wc) hD hS hA (rgs rs) hC
  refine va_calli (hr (subPD hP hD (rgs rs) hC hnd).1 (subPD hP hD (rgs rs) hC hnd).2 ((hE.kept hS.2.1).narrow hFc)) hS (fun q _ h => hFc q h) hFc (fun r u t H1 locs1 ht hvm hw hB hz1 hk1 hS1 => ?_)
  obtain ⟨h1, h2, h3⟩ := hw
  subst h2
  obtain ⟨hP1, -⟩ := hB
  rw [ht] at hP1
  obtain ⟨hP2, hD2⟩ := joinP hP hD (rgs rs) hC hnd (ha u) hk1 hP1
  have hlen : (W1 u).length = (rgs rs).length := by
    have h1 := congrArg List.length (ha u)
    have h2 := congrArg List.length hC
    simp only [List.length_map] at h1 h2
    omega
  rw [putL_spl rs ws (W1 u) (rin_of hri) hlen] at hP2 hD2
  exact kk u H1 locs1 h1 h3 hP2 hD2 hS1
theorem cL {val : ρ → Int64} (hP : va_P g.1 vwCl ws H) (hD : va_D A0 ws) (hS : va_S A0 H0 H locs) (hA : ∀ q, H0.size ≤ q → A0 q)
    (hE : SK g A0 s H0)
    (hr : va_P g.1 vwCl Wc H → va_D A0 Wc → SK g (va_A Wc H.size) s H → va_Run p l e R s m args below meth c H locs cells slots mc ms (F0 m pc ls st0) rest (Ql g mm val W1 (va_A Wc H.size) ar) (va_A Wc H.size))
    (rs : List (Nat × Nat)) (hC0 : sel ws rs = Wc) (hri : rin ws rs = true) (hrk : rok rs = true) (ha : ∀ u, (W1 u).map Prod.fst = Wc.map Prod.fst)
    (kk : ∀ (u : ρ) (H1 : Heap) (locs1 : List Loc), mm = some u → va_P g.1 vwCl (spl ws rs (W1 u)) H1 → va_D A0 (spl ws rs (W1 u)) → va_S A0 H0 H1 locs1 → W p l e R s m args below meth c H1 locs1 (cells + mc) (slots + ms) Q (F0 m (pc + 3) ls (.long (val u) :: rest))) :
    W p l e R s m args below meth c H locs cells slots Q (F0 m pc ls st0) := by
  have hC := sel_at (rin_of hri) hC0
  have hnd := rok_nd hrk
  have hFc := va_free (wc := Wc) hD hS hA (rgs rs) hC
  refine va_calll (hr (subPD hP hD (rgs rs) hC hnd).1 (subPD hP hD (rgs rs) hC hnd).2 ((hE.kept hS.2.1).narrow hFc)) hS (fun q _ h => hFc q h) hFc (fun r u t H1 locs1 ht hvm hw hB hz1 hk1 hS1 => ?_)
  obtain ⟨h1, h2⟩ := hw
  subst h2
  obtain ⟨hP1, -⟩ := hB
  rw [ht] at hP1
  obtain ⟨hP2, hD2⟩ := joinP hP hD (rgs rs) hC hnd (ha u) hk1 hP1
  have hlen : (W1 u).length = (rgs rs).length := by
    have h1 := congrArg List.length (ha u)
    have h2 := congrArg List.length hC
    simp only [List.length_map] at h1 h2
    omega
  rw [putL_spl rs ws (W1 u) (rin_of hri) hlen] at hP2 hD2
  exact kk u H1 locs1 h1 hP2 hD2 hS1
theorem cV (hP : va_P g.1 vwCl ws H) (hD : va_D A0 ws) (hS : va_S A0 H0 H locs) (hA : ∀ q, H0.size ≤ q → A0 q)
    (hE : SK g A0 s H0)
    (hr : va_P g.1 vwCl Wc H → va_D A0 Wc → SK g (va_A Wc H.size) s H → va_Run p l e R s m args below meth c H locs cells slots mc ms (F0 m pc ls st0) rest (Qv g mm W1 (va_A Wc H.size) ar) (va_A Wc H.size))
    (rs : List (Nat × Nat)) (hC0 : sel ws rs = Wc) (hri : rin ws rs = true) (hrk : rok rs = true) (ha : ∀ u, (W1 u).map Prod.fst = Wc.map Prod.fst)
    (kk : ∀ (u : ρ) (H1 : Heap) (locs1 : List Loc), mm = some u → va_P g.1 vwCl (spl ws rs (W1 u)) H1 → va_D A0 (spl ws rs (W1 u)) → va_S A0 H0 H1 locs1 → W p l e R s m args below meth c H1 locs1 (cells + mc) (slots + ms) Q (F0 m (pc + 3) ls rest)) :
    W p l e R s m args below meth c H locs cells slots Q (F0 m pc ls st0) := by
  have hC := sel_at (rin_of hri) hC0
  have hnd := rok_nd hrk
  have hFc := va_free (wc := Wc) hD hS hA (rgs rs) hC
  refine va_callv (hr (subPD hP hD (rgs rs) hC hnd).1 (subPD hP hD (rgs rs) hC hnd).2 ((hE.kept hS.2.1).narrow hFc)) hS (fun q _ h => hFc q h) hFc (fun u t H1 locs1 ht hvm hw hB hz1 hk1 hS1 => ?_)
  obtain ⟨hP1, -⟩ := hB
  rw [ht] at hP1
  obtain ⟨hP2, hD2⟩ := joinP hP hD (rgs rs) hC hnd (ha u) hk1 hP1
  have hlen : (W1 u).length = (rgs rs).length := by
    have h1 := congrArg List.length (ha u)
    have h2 := congrArg List.length hC
    simp only [List.length_map] at h1 h2
    omega
  rw [putL_spl rs ws (W1 u) (rin_of hri) hlen] at hP2 hD2
  exact kk u H1 locs1 hw hP2 hD2 hS1
theorem cR {ad : ρ → Nat} (hP : va_P g.1 vwCl ws H) (hD : va_D A0 ws) (hS : va_S A0 H0 H locs) (hA : ∀ q, H0.size ≤ q → A0 q)
    (hE : SK g A0 s H0)
    (hr : va_P g.1 vwCl Wc H → va_D A0 Wc → SK g (va_A Wc H.size) s H → va_Run p l e R s m args below meth c H locs cells slots mc ms (F0 m pc ls st0) rest (Qr g mm ad W1 (va_A Wc H.size) ar) (va_A Wc H.size))
    (rs : List (Nat × Nat)) (hC0 : sel ws rs = Wc) (hri : rin ws rs = true) (hrk : rok rs = true) (ha : ∀ u, (W1 u).map Prod.fst = Wc.map Prod.fst)
    (kk : ∀ (u : ρ) (H1 : Heap) (locs1 : List Loc), mm = some u → va_P g.1 vwCl (spl ws rs (W1 u)) H1 → va_D A0 (spl ws rs (W1 u)) → va_S A0 H0 H1 locs1 → W p l e R s m args below meth c H1 locs1 (cells + mc) (slots + ms) Q (F0 m (pc + 3) ls (.ref (ad u) :: rest))) :
    W p l e R s m args below meth c H locs cells slots Q (F0 m pc ls st0) := by
  have hC := sel_at (rin_of hri) hC0
  have hnd := rok_nd hrk
  have hFc := va_free (wc := Wc) hD hS hA (rgs rs) hC
  refine va_callr (hr (subPD hP hD (rgs rs) hC hnd).1 (subPD hP hD (rgs rs) hC hnd).2 ((hE.kept hS.2.1).narrow hFc)) hS (fun q _ h => hFc q h) hFc (fun u ra t H1 locs1 ht hvm hw hB hz1 hk1 hS1 => ?_)
  obtain ⟨h2, hP1, -⟩ := hB
  subst h2
  rw [ht] at hP1
  obtain ⟨hP2, hD2⟩ := joinP hP hD (rgs rs) hC hnd (ha u) hk1 hP1
  have hlen : (W1 u).length = (rgs rs).length := by
    have h1 := congrArg List.length (ha u)
    have h2 := congrArg List.length hC
    simp only [List.length_map] at h1 h2
    omega
  rw [putL_spl rs ws (W1 u) (rin_of hri) hlen] at hP2 hD2
  exact kk u H1 locs1 hw hP2 hD2 hS1
/-- calls that only read -/
theorem cIp {ty : FieldType} {val : ρ → Int32} (hP : va_P g.1 vwCl ws H) (hD : va_D A0 ws) (hS : va_S A0 H0 H locs) (hA : ∀ q, H0.size ≤ q → A0 q)
    (hE : SK g A0 s H0)
    (hr : va_P g.1 vwCl Wc H → va_D A0 Wc → SK g (va_A Wc H.size) s H → va_Run p l e R s m args below meth c H locs cells slots mc ms (F0 m pc ls st0) rest (Qi g ty mm val (fun _ => Wc) (va_A Wc H.size) ar) (va_A Wc H.size))
    (rs : List (Nat × Nat)) (hC0 : sel ws rs = Wc) (hri : rin ws rs = true) (hrk : rok rs = true)
    (kk : ∀ (u : ρ) (H1 : Heap) (locs1 : List Loc), mm = some u → narrow ty (.int (val u)) = .int (val u) → va_P g.1 vwCl ws H1 → va_S A0 H0 H1 locs1 → W p l e R s m args below meth c H1 locs1 (cells + mc) (slots + ms) Q (F0 m (pc + 3) ls (.int (val u) :: rest))) :
    W p l e R s m args below meth c H locs cells slots Q (F0 m pc ls st0) :=
  cI hP hD hS hA hE hr rs hC0 hri hrk (fun _ => rfl) (fun u H1 locs1 h1 h3 hP1 _ hS1 => kk u H1 locs1 h1 h3 (by rw [← putL_spl rs ws Wc (rin_of hri) (by have h2 := congrArg List.length (sel_at (rin_of hri) hC0); simp only [List.length_map] at h2; omega), putL_self (rgs rs) Wc ws (sel_at (rin_of hri) hC0)] at hP1; exact hP1) hS1)
theorem cLp {val : ρ → Int64} (hP : va_P g.1 vwCl ws H) (hD : va_D A0 ws) (hS : va_S A0 H0 H locs) (hA : ∀ q, H0.size ≤ q → A0 q)
    (hE : SK g A0 s H0)
    (hr : va_P g.1 vwCl Wc H → va_D A0 Wc → SK g (va_A Wc H.size) s H → va_Run p l e R s m args below meth c H locs cells slots mc ms (F0 m pc ls st0) rest (Ql g mm val (fun _ => Wc) (va_A Wc H.size) ar) (va_A Wc H.size))
    (rs : List (Nat × Nat)) (hC0 : sel ws rs = Wc) (hri : rin ws rs = true) (hrk : rok rs = true)
    (kk : ∀ (u : ρ) (H1 : Heap) (locs1 : List Loc), mm = some u → va_P g.1 vwCl ws H1 → va_S A0 H0 H1 locs1 → W p l e R s m args below meth c H1 locs1 (cells + mc) (slots + ms) Q (F0 m (pc + 3) ls (.long (val u) :: rest))) :
    W p l e R s m args below meth c H locs cells slots Q (F0 m pc ls st0) :=
  cL hP hD hS hA hE hr rs hC0 hri hrk (fun _ => rfl) (fun u H1 locs1 h1 hP1 _ hS1 => kk u H1 locs1 h1 (by rw [← putL_spl rs ws Wc (rin_of hri) (by have h2 := congrArg List.length (sel_at (rin_of hri) hC0); simp only [List.length_map] at h2; omega), putL_self (rgs rs) Wc ws (sel_at (rin_of hri) hC0)] at hP1; exact hP1) hS1)
/-- ends -/
theorem retI {u : ρ} {ty : FieldType} {val : ρ → Int32} (hx : p.tables.exec = Jvm.exec) (hb : c.code = cc) (hr : meth.sig.returnType = some ty) (hlocks : meth.locks = false) (hS : va_S A0 s.heap H locs) (hP : va_P g.1 vwCl (W1 u) H) (hD : va_D A0 (W1 u)) (hm : mm = some u) {v : Int32} (hv : v = val u) (hn : narrow ty (.int v) = .int v) (hdg : decode cc pc = .ok (.ireturn, 1)) :
    W p l e R s m args below meth c H locs cells slots (MQ below (Qi g ty mm val W1 A0) args s cells slots A0) (F0 m pc ls [.int v]) :=
  W.zret hx hb hr hn (fun t ht hW => ⟨⟨v, u, rfl, ⟨hm, hv, hn⟩, by rw [ht]; exact hP, hD⟩, hS.F ht⟩) hS.2.2 hdg hlocks
theorem retL {u : ρ} {val : ρ → Int64} (hx : p.tables.exec = Jvm.exec) (hb : c.code = cc) (hr : meth.sig.returnType = some .long) (hlocks : meth.locks = false) (hS : va_S A0 s.heap H locs) (hP : va_P g.1 vwCl (W1 u) H) (hD : va_D A0 (W1 u)) (hm : mm = some u) {v : Int64} (hv : v = val u) (hdg : decode cc pc = .ok (.lreturn, 1)) :
    W p l e R s m args below meth c H locs cells slots (MQ below (Ql g mm val W1 A0) args s cells slots A0) (F0 m pc ls [.long v]) :=
  W.lret hx hb hr (fun t ht hW => ⟨⟨v, u, rfl, ⟨hm, hv⟩, by rw [ht]; exact hP, hD⟩, hS.F ht⟩) hS.2.2 hdg hlocks
theorem retV {u : ρ} (hx : p.tables.exec = Jvm.exec) (hb : c.code = cc) (hr : meth.sig.returnType = none) (hlocks : meth.locks = false) (hS : va_S A0 s.heap H locs) (hP : va_P g.1 vwCl (W1 u) H) (hD : va_D A0 (W1 u)) (hm : mm = some u) (hdg : decode cc pc = .ok (.return_, 1)) :
    W p l e R s m args below meth c H locs cells slots (MQ below (Qv g mm W1 A0) args s cells slots A0) (F0 m pc ls []) :=
  W.vret hx hb hr (fun t ht hW => ⟨⟨u, rfl, hm, by rw [ht]; exact hP, hD⟩, hS.F ht⟩) hS.2.2 hdg hlocks
theorem retR {u : ρ} {rt : FieldType} {ad : ρ → Nat} (hx : p.tables.exec = Jvm.exec) (hb : c.code = cc) (hr : meth.sig.returnType = some rt) (hrt : (∃ n, rt = .object n) ∨ ∃ t, rt = .array t) (hlocks : meth.locks = false) (hS : va_S A0 s.heap H locs) (hP : va_P g.1 vwCl (W1 u) H) (hD : va_D A0 (W1 u)) (hm : mm = some u) {v : Nat} (hv : v = ad u) (hdg : decode cc pc = .ok (.areturn, 1)) :
    W p l e R s m args below meth c H locs cells slots (MQ below (Qr g mm ad W1 A0) args s cells slots A0) (F0 m pc ls [.ref v]) :=
  W.aret hx hb hr hrt (Or.inr ⟨v, rfl⟩) (fun t ht hW => ⟨⟨u, v, rfl, hm, hv, by rw [ht]; exact hP, hD⟩, hS.F ht⟩) hS.2.2 hdg hlocks
end CALLS
