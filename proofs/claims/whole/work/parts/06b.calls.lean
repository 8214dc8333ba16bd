section CALLS
variable {p : Program} {l : Launch} {e : Env} {R : Room} {s : State} {m : MethodId} {args : Array Value} {below : List Frame} {meth : Method} {c : Code} {H : Heap} {locs : List Loc} {cells slots : Nat} {Q : State → Prop}
variable {cc : ByteArray} {pc : Nat} {ls : Array Slot} {rest st0 : List Value} {g : GG} {y : MethodName} {b : ByteArray} {ml nL n idx : Nat} {ret : Option FieldType} {rm : Room} {Wc ws : va_W} {Qf : (Nat → Prop) → Array Value → State → Outcome → State → Prop} {mc ms : Nat} {own C : String} {a ci N : Nat} {T : u_T} {fs : List Value} {As : List Value} {A0 : Nat → Prop}
theorem pre_of {av : List Value} {W0 : va_W} {sz : Nat} (hK : NK g s) (hP : va_P g.1 vwCl W0 H) (hD : va_D A0 W0) (hE : SK g (va_A W0 sz) s H) (hz : H.size = sz) : FrameBlind (va_Pc av (fun U => U.heap.size = sz ∧ va_P g.1 vwCl W0 U.heap ∧ NK g U ∧ va_D (fun _ => True) W0 ∧ SK g (va_A W0 sz) U U.heap)) ∧ ∀ U : State, U.heap = H → s.WarmedH U.vm → va_Pc av (fun U => U.heap.size = sz ∧ va_P g.1 vwCl W0 U.heap ∧ NK g U ∧ va_D (fun _ => True) W0 ∧ SK g (va_A W0 sz) U U.heap) av.toArray U := by
  refine ⟨fun a U g' mk q => ?_, fun U hU hW => ⟨rfl, by rw [hU]; exact hz, by rw [hU]; exact hP, hK.moved hW, hD.weaken (fun _ _ _ _ => trivial), by rw [hU]; exact hE.moved hW.alike⟩⟩
  obtain ⟨q0, q1, q2, q3, q4, q5⟩ := q
  exact ⟨q0, q1, q2, NK.blind (U := U) (V := U.calling g' mk a) rfl q3, q4, SK.moved (u := U) (U := U.calling g' mk a) (Vm.Alike.refl U.vm) q5⟩
theorem subPD (hP : va_P g.1 vwCl ws H) (hD : va_D A0 ws) (is : List Nat) (hC : is.map (fun i => ws[i]?) = Wc.map some) (hnd : va_nd is = true) : va_P g.1 vwCl Wc H ∧ va_D A0 Wc := by
  refine ⟨fun k q hq => ?_, hD.sub is hnd hC⟩
  have h1 : (is.map (fun i => ws[i]?))[k]? = some (some q) := by rw [hC, List.getElem?_map, hq]; rfl
  rw [List.getElem?_map] at h1
  cases hi : is[k]? with
  | none => rw [hi] at h1; cases h1
  | some i => rw [hi] at h1; exact hP i q (Option.some.inj h1)
theorem rV (hx : p.tables.exec = Jvm.exec) (hb : c.code = cc) (hml : c.maxLocals = nL) (hown : s.vm.findClass own = some m.cls) (hts : ∀ w ∈ G, w.before args s = true) (hK : NK g s) (hC0 : Ct l g y b ml ret rm (.ref a :: As) Wc Qf mc ms) (sv : SV C y b ml ret n) (hlk : Cond.methodLink own idx y ∈ G)
    (h0 : Wc[0]? = some (a, .inr (ci, fs))) (hci : vwCl[ci]? = some (C, T, N)) (hPc : va_P g.1 vwCl Wc H) (hDc : va_D A0 Wc) (hEc : SK g (va_A Wc H.size) s H)
    (hst : st0 = As.reverse ++ .ref a :: rest) (hn : As.length = n) (hsz : ls.size = nL) (hW : (rest.map fun v => v.category).sum ≤ 8) (hdg : decode cc pc = .ok (.invokevirtual idx, 3)) (hf : Fit rm R ml mc ms cells slots) :
    va_Run p l e R s m args below meth c H locs cells slots mc ms (F0 m pc ls st0) rest (Qf (va_A Wc H.size) (Value.ref a :: As).toArray) (va_A Wc H.size) := by
  obtain ⟨f1, f2, f3, f4, f5, f6⟩ := hf
  obtain ⟨v1, v2, v3, v4, v5, v6, v7, v8⟩ := sv
  have hT : GoodIn G (wsV own idx C y (.code y b ml ret :: G)) := fun w hw => by
    unfold wsV at hw
    simp only [List.cons_append, List.nil_append, List.mem_cons] at hw
    rcases hw with rfl | rfl | rfl | rfl | rfl | hw
    · exact G_in hlk _ List.mem_cons_self
    · exact G_in v1 _ List.mem_cons_self
    · exact G_in v2 _ List.mem_cons_self
    · exact G_in v3 _ List.mem_cons_self
    · exact G_in v4 _ List.mem_cons_self
    · exact G_code v4 w (List.mem_cons_of_mem _ hw)
  have hrecv := va_recv hK.1 hPc hci h0
  exact va_runV (rest := rest) ⟨hx, hb, hml, hown, hts⟩ (hC0 H.size) (cwV n hts hT rfl f3 f4 ⟨v5, v6, v7, v8⟩ ⟨f1, f2⟩) ⟨(pre_of hK hPc hDc hEc rfl).1, hrecv, (pre_of hK hPc hDc hEc rfl).2⟩ rfl hn hsz hst (lv_room hW) hdg ⟨f5, f6⟩
theorem rVs {t : Nat} {A1 : Nat → Prop} (hx : p.tables.exec = Jvm.exec) (hb : c.code = cc) (hml : c.maxLocals = nL) (hown : s.vm.findClass own = some m.cls) (hts : ∀ w ∈ G, w.before args s = true) (hK : NK g s) (hC0 : Ct l g y b ml ret rm (.ref (adK g t) :: As) Wc Qf mc ms) (sv : SV "java/lang/String" y b ml ret n) (hlk : Cond.methodLink own idx y ∈ G)
    (hE : SK g A1 s s.heap) (hS : va_S A1 s.heap H locs) (ht : t < 10) (hPc : va_P g.1 vwCl Wc H) (hDc : va_D A0 Wc) (hEc : SK g (va_A Wc H.size) s H)
    (hst : st0 = As.reverse ++ .ref (adK g t) :: rest) (hn : As.length = n) (hsz : ls.size = nL) (hW : (rest.map fun v => v.category).sum ≤ 8) (hdg : decode cc pc = .ok (.invokevirtual idx, 3)) (hf : Fit rm R ml mc ms cells slots) :
    va_Run p l e R s m args below meth c H locs cells slots mc ms (F0 m pc ls st0) rest (Qf (va_A Wc H.size) (Value.ref (adK g t) :: As).toArray) (va_A Wc H.size) := by
  obtain ⟨f1, f2, f3, f4, f5, f6⟩ := hf
  obtain ⟨v1, v2, v3, v4, v5, v6, v7, v8⟩ := sv
  have hT : GoodIn G (wsV own idx "java/lang/String" y (.code y b ml ret :: G)) := fun w hw => by
    unfold wsV at hw
    simp only [List.cons_append, List.nil_append, List.mem_cons] at hw
    rcases hw with rfl | rfl | rfl | rfl | rfl | hw
    · exact G_in hlk _ List.mem_cons_self
    · exact G_in v1 _ List.mem_cons_self
    · exact G_in v2 _ List.mem_cons_self
    · exact G_in v3 _ List.mem_cons_self
    · exact G_in v4 _ List.mem_cons_self
    · exact G_code v4 w (List.mem_cons_of_mem _ hw)
  have hrecv := vk_recv hE.1 ht hS
  exact va_runV (rest := rest) ⟨hx, hb, hml, hown, hts⟩ (hC0 H.size) (cwV n hts hT rfl f3 f4 ⟨v5, v6, v7, v8⟩ ⟨f1, f2⟩) ⟨(pre_of hK hPc hDc hEc rfl).1, hrecv, (pre_of hK hPc hDc hEc rfl).2⟩ rfl hn hsz hst (lv_room hW) hdg ⟨f5, f6⟩
theorem rS (hx : p.tables.exec = Jvm.exec) (hb : c.code = cc) (hml : c.maxLocals = nL) (hown : s.vm.findClass own = some m.cls) (hts : ∀ w ∈ G, w.before args s = true) (hK : NK g s) (hC0 : Ct l g y b ml ret rm As Wc Qf mc ms) (ss : SS C y b ml ret n) (hlk : Cond.methodLink own idx y ∈ G)
    (hPc : va_P g.1 vwCl Wc H) (hDc : va_D A0 Wc) (hEc : SK g (va_A Wc H.size) s H)
    (hst : st0 = As.reverse ++ rest) (hn : As.length = n) (hsz : ls.size = nL) (hW : (rest.map fun v => v.category).sum ≤ 8) (hdg : decode cc pc = .ok (.invokestatic idx, 3)) (hf : Fit rm R ml mc ms cells slots) :
    va_Run p l e R s m args below meth c H locs cells slots mc ms (F0 m pc ls st0) rest (Qf (va_A Wc H.size) As.toArray) (va_A Wc H.size) := by
  obtain ⟨f1, f2, f3, f4, f5, f6⟩ := hf
  obtain ⟨v1, v3, v4, v5, v6, v7, v8⟩ := ss
  have hT : GoodIn G (va_wsS own idx y (.code y b ml ret :: G)) := fun w hw => by
    unfold va_wsS at hw
    simp only [List.cons_append, List.nil_append, List.mem_cons] at hw
    rcases hw with rfl | rfl | rfl | rfl | hw
    · exact G_in hlk _ List.mem_cons_self
    · exact G_in v1 _ List.mem_cons_self
    · rw [v5]; exact G_in v3 _ List.mem_cons_self
    · exact G_in v4 _ List.mem_cons_self
    · exact G_code v4 w (List.mem_cons_of_mem _ hw)
  exact va_runS (rest := rest) ⟨hx, hb, hml, hown, hts⟩ (hC0 H.size) (va_cwS n hts hT rfl f3 f4 ⟨v6, v7, v8⟩ ⟨f1, f2⟩) (pre_of hK hPc hDc hEc rfl) rfl hn hsz hst (lv_room hW) hdg ⟨f5, f6⟩
theorem rSN {host : String} (hx : p.tables.exec = Jvm.exec) (hb : c.code = cc) (hml : c.maxLocals = nL) (hown : s.vm.findClass own = some m.cls) (hts : ∀ w ∈ G, w.before args s = true) (hK : NK g s) (hC0 : Ct l g y b ml ret rm As Wc Qf mc ms) (ss : SS C y b ml ret n) (hlk : Cond.methodLinkNest own idx y host ∈ nestW)
    (hPc : va_P g.1 vwCl Wc H) (hDc : va_D A0 Wc) (hEc : SK g (va_A Wc H.size) s H)
    (hst : st0 = As.reverse ++ rest) (hn : As.length = n) (hsz : ls.size = nL) (hW : (rest.map fun v => v.category).sum ≤ 8) (hdg : decode cc pc = .ok (.invokestatic idx, 3)) (hf : Fit rm R ml mc ms cells slots) :
    va_Run p l e R s m args below meth c H locs cells slots mc ms (F0 m pc ls st0) rest (Qf (va_A Wc H.size) As.toArray) (va_A Wc H.size) := by
  obtain ⟨f1, f2, f3, f4, f5, f6⟩ := hf
  obtain ⟨v1, v3, v4, v5, v6, v7, v8⟩ := ss
  exact va_runSN (rest := rest) ⟨hx, hb, hml, hown, hts⟩ (hC0 H.size) ⟨va_cnB n hts (G_code v4) rfl f3 f4 (hK.2.1 _ hlk) (by rw [v5]; exact hts _ v3) ⟨v6, v7, v8⟩ ⟨f1, f2⟩, hts _ v1, trivial⟩ (pre_of hK hPc hDc hEc rfl) rfl hn hsz hst (lv_room hW) hdg ⟨f5, f6⟩
theorem rI (hx : p.tables.exec = Jvm.exec) (hb : c.code = cc) (hml : c.maxLocals = nL) (hown : s.vm.findClass own = some m.cls) (hts : ∀ w ∈ G, w.before args s = true) (hK : NK g s) (hC0 : Ct l g y b ml none rm (.ref a :: As) Wc Qf mc ms) (si : SI C y b ml n) (hlk : Cond.methodLink own idx y ∈ G)
    (hPc : va_P g.1 vwCl Wc H) (hDc : va_D A0 Wc) (hEc : SK g (va_A Wc H.size) s H)
    (hst : st0 = As.reverse ++ .ref a :: rest) (hn : As.length = n) (hsz : ls.size = nL) (hW : (rest.map fun v => v.category).sum ≤ 8) (hdg : decode cc pc = .ok (.invokespecial idx, 3)) (hf : Fit rm R ml mc ms cells slots) :
    va_Run p l e R s m args below meth c H locs cells slots mc ms (F0 m pc ls st0) rest (Qf (va_A Wc H.size) (Value.ref a :: As).toArray) (va_A Wc H.size) := by
  obtain ⟨f1, f2, f3, f4, f5, f6⟩ := hf
  obtain ⟨v1, v3, v4, v5, v5b, v6, v7, v8⟩ := si
  exact va_runI (rest := rest) ⟨hx, hb, hml, hown, hts⟩ (hC0 H.size) (cwI n hts (G_code v4) rfl f3 f4 (by rw [v5]; exact hts _ v3) (hts _ hlk) (hts _ v1) v5b ⟨v6, v7, v8⟩ ⟨f1, f2⟩) (pre_of hK hPc hDc hEc rfl) rfl hn hsz hst (lv_room hW) hdg ⟨f5, f6⟩
theorem rIN {host : String} (hx : p.tables.exec = Jvm.exec) (hb : c.code = cc) (hml : c.maxLocals = nL) (hown : s.vm.findClass own = some m.cls) (hts : ∀ w ∈ G, w.before args s = true) (hK : NK g s) (hC0 : Ct l g y b ml none rm (.ref a :: As) Wc Qf mc ms) (si : SI C y b ml n) (hlk : Cond.methodLinkNest own idx y host ∈ nestW)
    (hPc : va_P g.1 vwCl Wc H) (hDc : va_D A0 Wc) (hEc : SK g (va_A Wc H.size) s H)
    (hst : st0 = As.reverse ++ .ref a :: rest) (hn : As.length = n) (hsz : ls.size = nL) (hW : (rest.map fun v => v.category).sum ≤ 8) (hdg : decode cc pc = .ok (.invokespecial idx, 3)) (hf : Fit rm R ml mc ms cells slots) :
    va_Run p l e R s m args below meth c H locs cells slots mc ms (F0 m pc ls st0) rest (Qf (va_A Wc H.size) (Value.ref a :: As).toArray) (va_A Wc H.size) := by
  obtain ⟨f1, f2, f3, f4, f5, f6⟩ := hf
  obtain ⟨v1, v3, v4, v5, v5b, v6, v7, v8⟩ := si
  exact va_runIN (rest := rest) ⟨hx, hb, hml, hown, hts⟩ (hC0 H.size) ⟨va_cnB n hts (G_code v4) rfl f3 f4 (hK.2.1 _ hlk) (by rw [v5]; exact hts _ v3) ⟨v6, v7, v8⟩ ⟨f1, f2⟩, v5b, hts _ v1⟩ (pre_of hK hPc hDc hEc rfl) rfl hn hsz hst (lv_room hW) hdg ⟨f5, f6⟩
end CALLS
