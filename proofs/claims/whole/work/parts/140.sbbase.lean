/-! THE STRING BUILDER: calls behind which a row of bytes may lie elsewhere -/
theorem sel_priv {y z : MethodName} {C : String} {s : State} {args : Array Value} (hy : y.cls ≠ "java/lang/invoke/MethodHandle" ∧ y.cls ≠ "java/lang/invoke/VarHandle") (hz : z.cls = y.cls) (hsel : (Cond.selects C z z).before args s = true) (hpriv : (Cond.privateMethod y).before args s = true) (hinst : (Cond.instanceMethod y).before args s = true) : (Cond.selects C y y).before args s = true := by
  obtain ⟨c, r, m2, hc, -, hm2, -, kP, hkP, hkPi⟩ := Cond.selects_spec hsel
  obtain ⟨mk, methM, hnamed, hmethM, -, -⟩ := Cond.instanceMethod_spec hinst
  have hfound : s.methodFound? y.cls y.name y.desc = some mk := State.methodFound?_of_named hnamed hy
  have e1 := findClass_of_methodNamed hm2
  rw [hz] at e1
  have e : m2.cls = mk.cls := Option.some.inj (e1.symm.trans (findClass_of_methodNamed hnamed))
  have hs : selectMethod {} s.vm c mk = .method mk := selectMethod_private hmethM (Cond.privateMethod_at hpriv mk methM hnamed hmethM)
  simp only [Cond.before, Cond.holds, Cond.value, hc, hfound, hnamed, hs, ← e, hkP]
  simp
  exact hkPi
theorem P_mem {D : va_G} {cl : List vw_C} {ws : va_W} {H : Heap} : va_P D cl ws H ↔ ∀ q ∈ ws, va_at D cl q H :=
  ⟨fun h q hq => by obtain ⟨k, hk⟩ := List.getElem?_of_mem hq; exact h k q hk, fun h k q hk => h q (List.mem_of_getElem? hk)⟩
theorem D_nd {A : Nat → Prop} {ws : va_W} : va_D A ws ↔ (ws.map Prod.fst).Nodup ∧ ∀ q ∈ ws, A q.1 := by
  constructor
  · intro h
    refine ⟨List.pairwise_iff_getElem.mpr (fun i j hi hj hij e => ?_), fun q hq => by obtain ⟨k, hk⟩ := List.getElem?_of_mem hq; exact h.2 k q hk⟩
    simp only [List.length_map] at hi hj
    simp only [List.getElem_map] at e
    have := h.1 i j ws[i] ws[j] (List.getElem?_eq_getElem hi) (List.getElem?_eq_getElem hj) e
    omega
  · rintro ⟨h1, h2⟩
    refine ⟨fun i j p q hi hj e => ?_, fun k q hk => h2 q (List.mem_of_getElem? hk)⟩
    obtain ⟨hi', ei⟩ := List.getElem?_eq_some_iff.mp hi
    obtain ⟨hj', ej⟩ := List.getElem?_eq_some_iff.mp hj
    have hp := List.pairwise_iff_getElem.mp h1
    rcases Nat.lt_trichotomy i j with g | g | g
    · have h9 : (ws.map Prod.fst)[i]'(by simpa using hi') ≠ (ws.map Prod.fst)[j]'(by simpa using hj') := hp i j _ _ g
      rw [List.getElem_map, List.getElem_map, ei, ej] at h9
      exact absurd e h9
    · exact g
    · have h9 : (ws.map Prod.fst)[j]'(by simpa using hj') ≠ (ws.map Prod.fst)[i]'(by simpa using hi') := hp j i _ _ g
      rw [List.getElem_map, List.getElem_map, ei, ej] at h9
      exact absurd e.symm h9
theorem D_perm {A : Nat → Prop} {w1 w2 : va_W} (h : w1.Perm w2) (hD : va_D A w1) : va_D A w2 := by
  rw [D_nd] at hD ⊢
  exact ⟨(h.map Prod.fst).nodup_iff.mp hD.1, fun q hq => hD.2 q (h.mem_iff.mpr hq)⟩
theorem P_perm {D : va_G} {cl : List vw_C} {w1 w2 : va_W} {H : Heap} (h : w1.Perm w2) (hP : va_P D cl w1 H) : va_P D cl w2 H := by
  rw [P_mem] at hP ⊢
  exact fun q hq => hP q (h.mem_iff.mpr hq)
/-- answers beside which an address comes -/
def Qig {ρ : Type} (g : GG) (ty : FieldType) (mm : Option ρ) (val : ρ → Int32) (W1 : ρ → Nat → va_W) : (Nat → Prop) → Array Value → State → Outcome → State → Prop := fun A => va_Qi (fun r (u : ρ × Nat) => mm = some u.1 ∧ r = val u.1 ∧ narrow ty (.int r) = .int r) (fun u t => va_P g.1 vwCl (W1 u.1 u.2) t.heap ∧ va_D A (W1 u.1 u.2)) A
def Qvg {ρ : Type} (g : GG) (mm : Option ρ) (W1 : ρ → Nat → va_W) : (Nat → Prop) → Array Value → State → Outcome → State → Prop := fun A => va_Qv (fun (u : ρ × Nat) => mm = some u.1) (fun u t => va_P g.1 vwCl (W1 u.1 u.2) t.heap ∧ va_D A (W1 u.1 u.2)) A
def Qrg {ρ : Type} (g : GG) (mm : Option ρ) (ad : Nat) (W1 : ρ → Nat → va_W) : (Nat → Prop) → Array Value → State → Outcome → State → Prop := fun A => va_Qr (fun (u : ρ × Nat) => mm = some u.1) (fun u a t => a = ad ∧ va_P g.1 vwCl (W1 u.1 u.2) t.heap ∧ va_D A (W1 u.1 u.2)) A
section SBC
variable {p : Program} {l : Launch} {e : Env} {R : Room} {s : State} {m : MethodId} {args : Array Value} {below : List Frame} {meth : Method} {c : Code} {H : Heap} {locs : List Loc} {cells slots : Nat} {Q : State → Prop}
variable {cc : ByteArray} {pc : Nat} {ls : Array Slot} {rest st0 : List Value} {g : GG} {y : MethodName} {b : ByteArray} {ml nL n idx : Nat} {ret : Option FieldType} {rm : Room} {Wc ws : va_W} {Qf : (Nat → Prop) → Array Value → State → Outcome → State → Prop} {mc ms : Nat} {own C : String} {a ci N : Nat} {T : u_T} {fs : List Value} {As : List Value} {A0 : Nat → Prop} {H0 : Heap}
variable {ρ : Type} {mm : Option ρ} {W1 : ρ → Nat → va_W} {ar : Array Value}
/-- a private method of the superclass, on a builder -/
theorem rVp (hx : p.tables.exec = Jvm.exec) (hb : c.code = cc) (hml : c.maxLocals = nL) (hown : s.vm.findClass own = some m.cls) (hts : ∀ w ∈ G, w.before args s = true) (hK : NK g s) (hC0 : Ct l g y b ml ret rm (.ref a :: As) Wc Qf mc ms)
    (sv : Cond.sameMethod y.cls y.cls y.name y.desc ∈ G ∧ Cond.instanceMethod y ∈ G ∧ Cond.selects C y y ∈ sbS ∧ Cond.initialized y.cls ∈ G ∧ Cond.code y b ml ret ∈ G ∧ y.cls ≠ "java/lang/invoke/MethodHandle" ∧ y.cls ≠ "java/lang/invoke/VarHandle" ∧ (parseMethodDescriptor y.desc).map (fun d => d.parameters.length) = some n) (hlk : Cond.methodLink own idx y ∈ G)
    (h0 : Wc[0]? = some (a, .inr (ci, fs))) (hci : vwCl[ci]? = some (C, T, N)) (hPc : va_P g.1 vwCl Wc H) (hDc : va_D A0 Wc) (hEc : SK g (va_A Wc H.size) s H)
    (hst : st0 = As.reverse ++ .ref a :: rest) (hn : As.length = n) (hsz : ls.size = nL) (hW : (rest.map fun v => v.category).sum ≤ 8) (hdg : decode cc pc = .ok (.invokevirtual idx, 3)) (hf : Fit rm R ml mc ms cells slots) :
    va_Run p l e R s m args below meth c H locs cells slots mc ms (F0 m pc ls st0) rest (Qf (va_A Wc H.size) (Value.ref a :: As).toArray) (va_A Wc H.size) := by
  obtain ⟨f1, f2, f3, f4, f5, f6⟩ := hf
  obtain ⟨v0, v1, vz, v3, v4, v6, v7, v8⟩ := sv
  have hts2 : ∀ w ∈ Cond.selects C y y :: G, w.before args s = true := fun w hw => by
    rcases List.mem_cons.mp hw with rfl | hw
    · exact va_Nw.use (sbS_good _ vz).2 (hK.2.2.2 _ vz)
    · exact hts w hw
  have up : ∀ {ws : List Cond}, GoodIn G ws → GoodIn (Cond.selects C y y :: G) ws := fun h w hw => ⟨List.mem_cons_of_mem _ (h w hw).1, (h w hw).2⟩
  have hT : GoodIn (Cond.selects C y y :: G) (va_wsU own idx C y.cls y y (.code y b ml ret :: G)) := fun w hw => by
    unfold va_wsU at hw
    simp only [List.cons_append, List.nil_append, List.mem_cons] at hw
    rcases hw with rfl | rfl | rfl | rfl | rfl | rfl | hw
    · exact up (G_in hlk) _ List.mem_cons_self
    · exact up (G_in v0) _ List.mem_cons_self
    · exact ⟨List.mem_cons_self, good_of_word (sbS_good _ vz).1⟩
    · exact up (G_in v1) _ List.mem_cons_self
    · exact up (G_in v3) _ List.mem_cons_self
    · exact up (G_in v4) _ List.mem_cons_self
    · exact up (G_code v4) w (List.mem_cons_of_mem _ hw)
  have hrecv := va_recv hK.1 hPc hci h0
  exact va_runU (rest := rest) ⟨hx, hb, hml, hown, hts2⟩ (hC0 H.size) (va_cwU n hts2 hT rfl f3 f4 rfl ⟨v6, v7, v8⟩ ⟨f1, f2⟩) ⟨(pre_of hK hPc hDc hEc rfl).1, hrecv, (pre_of hK hPc hDc hEc rfl).2⟩ rfl hn hsz hst (lv_room hW) hdg ⟨f5, f6⟩
/-- an inherited method, on a builder -/
theorem rVh (hx : p.tables.exec = Jvm.exec) (hb : c.code = cc) (hml : c.maxLocals = nL) (hown : s.vm.findClass own = some m.cls) (hts : ∀ w ∈ G, w.before args s = true) (hK : NK g s) (hC0 : Ct l g y b ml ret rm (.ref a :: As) Wc Qf mc ms)
    (sv : Cond.sameMethod y.cls y.cls y.name y.desc ∈ G ∧ Cond.instanceMethod y ∈ G ∧ Cond.selects C y y ∈ G ∧ Cond.initialized y.cls ∈ G ∧ Cond.code y b ml ret ∈ G ∧ y.cls ≠ "java/lang/invoke/MethodHandle" ∧ y.cls ≠ "java/lang/invoke/VarHandle" ∧ (parseMethodDescriptor y.desc).map (fun d => d.parameters.length) = some n) (hlk : Cond.methodLink own idx y ∈ G)
    (h0 : Wc[0]? = some (a, .inr (ci, fs))) (hci : vwCl[ci]? = some (C, T, N)) (hPc : va_P g.1 vwCl Wc H) (hDc : va_D A0 Wc) (hEc : SK g (va_A Wc H.size) s H)
    (hst : st0 = As.reverse ++ .ref a :: rest) (hn : As.length = n) (hsz : ls.size = nL) (hW : (rest.map fun v => v.category).sum ≤ 8) (hdg : decode cc pc = .ok (.invokevirtual idx, 3)) (hf : Fit rm R ml mc ms cells slots) :
    va_Run p l e R s m args below meth c H locs cells slots mc ms (F0 m pc ls st0) rest (Qf (va_A Wc H.size) (Value.ref a :: As).toArray) (va_A Wc H.size) := by
  obtain ⟨f1, f2, f3, f4, f5, f6⟩ := hf
  obtain ⟨v0, v1, v2, v3, v4, v6, v7, v8⟩ := sv
  have hT : GoodIn G (va_wsU own idx C y.cls y y (.code y b ml ret :: G)) := fun w hw => by
    unfold va_wsU at hw
    simp only [List.cons_append, List.nil_append, List.mem_cons] at hw
    rcases hw with rfl | rfl | rfl | rfl | rfl | rfl | hw
    · exact G_in hlk _ List.mem_cons_self
    · exact G_in v0 _ List.mem_cons_self
    · exact G_in v2 _ List.mem_cons_self
    · exact G_in v1 _ List.mem_cons_self
    · exact G_in v3 _ List.mem_cons_self
    · exact G_in v4 _ List.mem_cons_self
    · exact G_code v4 w (List.mem_cons_of_mem _ hw)
  have hrecv := va_recv hK.1 hPc hci h0
  exact va_runU (rest := rest) ⟨hx, hb, hml, hown, hts⟩ (hC0 H.size) (va_cwU n hts hT rfl f3 f4 rfl ⟨v6, v7, v8⟩ ⟨f1, f2⟩) ⟨(pre_of hK hPc hDc hEc rfl).1, hrecv, (pre_of hK hPc hDc hEc rfl).2⟩ rfl hn hsz hst (lv_room hW) hdg ⟨f5, f6⟩
/-- super.m(..) on a builder -/
theorem rSU (hx : p.tables.exec = Jvm.exec) (hb : c.code = cc) (hml : c.maxLocals = nL) (hown : s.vm.findClass own = some m.cls) (hts : ∀ w ∈ G, w.before args s = true) (hK : NK g s) (hC0 : Ct l g y b ml ret rm (.ref a :: As) Wc Qf mc ms)
    (sv : Cond.sameMethod y.cls y.cls y.name y.desc ∈ G ∧ Cond.superclass own y.cls ∈ G ∧ Cond.instanceMethod y ∈ G ∧ Cond.initialized y.cls ∈ G ∧ Cond.code y b ml ret ∈ G ∧ y.name ≠ "<init>" ∧ (parseMethodDescriptor y.desc).map (fun d => d.parameters.length) = some n) (hlk : Cond.methodLink own idx y ∈ G)
    (h0 : Wc[0]? = some (a, .inr (ci, fs))) (hci : vwCl[ci]? = some (C, T, N)) (hPc : va_P g.1 vwCl Wc H) (hDc : va_D A0 Wc) (hEc : SK g (va_A Wc H.size) s H)
    (hst : st0 = As.reverse ++ .ref a :: rest) (hn : As.length = n) (hsz : ls.size = nL) (hW : (rest.map fun v => v.category).sum ≤ 8) (hdg : decode cc pc = .ok (.invokespecial idx, 3)) (hf : Fit rm R ml mc ms cells slots) :
    va_Run p l e R s m args below meth c H locs cells slots mc ms (F0 m pc ls st0) rest (Qf (va_A Wc H.size) (Value.ref a :: As).toArray) (va_A Wc H.size) := by
  obtain ⟨f1, f2, f3, f4, f5, f6⟩ := hf
  obtain ⟨v1, v2, v3, v4, v5, v6, v8⟩ := sv
  have hT : GoodIn G (va_wsSU own idx y (.code y b ml ret :: G)) := fun w hw => by
    unfold va_wsSU at hw
    simp only [List.cons_append, List.nil_append, List.mem_cons] at hw
    rcases hw with rfl | rfl | rfl | rfl | rfl | rfl | hw
    · exact G_in hlk _ List.mem_cons_self
    · exact G_in v1 _ List.mem_cons_self
    · exact G_in v2 _ List.mem_cons_self
    · exact G_in v3 _ List.mem_cons_self
    · exact G_in v4 _ List.mem_cons_self
    · exact G_in v5 _ List.mem_cons_self
    · exact G_code v5 w (List.mem_cons_of_mem _ hw)
  exact va_runSU (rest := rest) (hK.1.1 ci _ hci).2 ⟨hx, hb, hml, hown, hts⟩ (hC0 H.size) (va_cwSU n hts hT rfl f3 f4 ⟨v6, v8⟩ ⟨f1, f2⟩) ⟨(pre_of hK hPc hDc hEc rfl).1, va_recv hK.1 hPc hci h0, (pre_of hK hPc hDc hEc rfl).2⟩ rfl hn hsz hst (lv_room hW) hdg ⟨f5, f6⟩
theorem mid_C {α : Type} (ws : List α) (o k : Nat) (h : o + k ≤ ws.length) : (List.range' o k).map (fun i => ws[i]?) = ((ws.drop o).take k).map some := by
  refine List.ext_getElem (by simp; omega) (fun i h1 h2 => ?_)
  simp only [List.length_map, List.length_range'] at h1
  simp only [List.getElem_map, List.getElem_range', List.getElem_take, List.getElem_drop]
  rw [List.getElem?_eq_getElem (by omega)]
  congr 2; omega
theorem mid_R {α : Type} (ws : List α) (o k : Nat) (h : o + k ≤ ws.length) : (List.range' 0 o ++ List.range' (o + k) (ws.length - (o + k))).map (fun i => ws[i]?) = (ws.take o ++ ws.drop (o + k)).map some := by
  have h1 := mid_C ws 0 o (by omega)
  have h2 := mid_C ws (o + k) (ws.length - (o + k)) (by omega)
  rw [List.map_append, List.map_append, h1, h2, List.drop_zero, List.take_of_length_le (l := ws.drop (o + k)) (by simp)]
theorem mid_nd {α : Type} (ws : List α) (o k : Nat) : va_nd (List.range' 0 o ++ List.range' (o + k) (ws.length - (o + k))) = true :=
  va_nd_app (va_nd_range _ _) (va_nd_range _ _) (fun a h1 h2 => by rw [List.mem_range'_1] at h1 h2; omega)
theorem joinM {w1 : va_W} {H1 : Heap} (hP : va_P g.1 vwCl ws H) (hD : va_D A0 ws) (o k : Nat) (hC0 : (ws.drop o).take k = Wc) (hok : o + k ≤ ws.length) (hk1 : ∀ q : Nat, q < H.size → ¬ va_A Wc H.size q → H1[q]? = H[q]?) (hF : ∀ q, va_A Wc H.size q → A0 q) (hP1 : va_P g.1 vwCl w1 H1) (hD1 : va_D (va_A Wc H.size) w1) :
    va_P g.1 vwCl (ws.take o ++ (w1 ++ ws.drop (o + k))) H1 ∧ va_D A0 (ws.take o ++ (w1 ++ ws.drop (o + k))) := by
  obtain ⟨h1, h2⟩ := va_join (wr := ws.take o ++ ws.drop (o + k)) (w1 := w1) hP hD (List.range' o k) (List.range' 0 o ++ List.range' (o + k) (ws.length - (o + k))) (hC0 ▸ mid_C ws o k hok) (mid_R ws o k hok) (mid_nd ws o k) (fun i hi hc => by
    rcases List.mem_append.mp hi with h | h <;> (rw [List.mem_range'_1] at h hc; omega)) hk1 hF hP1 hD1
  have hp : ((ws.take o ++ ws.drop (o + k)) ++ w1).Perm (ws.take o ++ (w1 ++ ws.drop (o + k))) := by
    rw [List.append_assoc]
    exact List.Perm.append_left _ List.perm_append_comm
  exact ⟨P_perm hp h1, D_perm hp h2⟩
theorem cVg (hP : va_P g.1 vwCl ws H) (hD : va_D A0 ws) (hS : va_S A0 H0 H locs) (hA : ∀ q, H0.size ≤ q → A0 q) (hE : SK g A0 s H0)
    (hr : va_P g.1 vwCl Wc H → va_D A0 Wc → SK g (va_A Wc H.size) s H → va_Run p l e R s m args below meth c H locs cells slots mc ms (F0 m pc ls st0) rest (Qvg g mm W1 (va_A Wc H.size) ar) (va_A Wc H.size))
    (o k : Nat) (hC0 : (ws.drop o).take k = Wc) (hok : Nat.ble (o + k) ws.length = true)
    (kk : ∀ (u : ρ) (ga : Nat) (H1 : Heap) (locs1 : List Loc), mm = some u → va_P g.1 vwCl (ws.take o ++ (W1 u ga ++ ws.drop (o + k))) H1 → va_D A0 (ws.take o ++ (W1 u ga ++ ws.drop (o + k))) → va_S A0 H0 H1 locs1 → W p l e R s m args below meth c H1 locs1 (cells + mc) (slots + ms) Q (F0 m (pc + 3) ls rest)) :
    W p l e R s m args below meth c H locs cells slots Q (F0 m pc ls st0) := by
  have hok := Nat.le_of_ble_eq_true hok
  have hC := hC0 ▸ mid_C ws o k hok
  have hFc := va_free (wc := Wc) hD hS hA (List.range' o k) hC
  have hPD := subPD (Wc := Wc) hP hD (List.range' o k) hC (va_nd_range _ _)
  refine va_callv (hr hPD.1 hPD.2 ((hE.kept hS.2.1).narrow hFc)) hS (fun q _ h => hFc q h) hFc (fun u t H1 locs1 ht hvm hw hB hz1 hk1 hS1 => ?_)
  obtain ⟨hP1, hD1⟩ := hB
  rw [ht] at hP1
  obtain ⟨hP2, hD2⟩ := joinM hP hD o k hC0 hok hk1 hFc hP1 hD1
  exact kk u.1 u.2 H1 locs1 hw hP2 hD2 hS1
theorem cRg {ad : Nat} (hP : va_P g.1 vwCl ws H) (hD : va_D A0 ws) (hS : va_S A0 H0 H locs) (hA : ∀ q, H0.size ≤ q → A0 q) (hE : SK g A0 s H0)
    (hr : va_P g.1 vwCl Wc H → va_D A0 Wc → SK g (va_A Wc H.size) s H → va_Run p l e R s m args below meth c H locs cells slots mc ms (F0 m pc ls st0) rest (Qrg g mm ad W1 (va_A Wc H.size) ar) (va_A Wc H.size))
    (o k : Nat) (hC0 : (ws.drop o).take k = Wc) (hok : Nat.ble (o + k) ws.length = true)
    (kk : ∀ (u : ρ) (ga : Nat) (H1 : Heap) (locs1 : List Loc), mm = some u → va_P g.1 vwCl (ws.take o ++ (W1 u ga ++ ws.drop (o + k))) H1 → va_D A0 (ws.take o ++ (W1 u ga ++ ws.drop (o + k))) → va_S A0 H0 H1 locs1 → W p l e R s m args below meth c H1 locs1 (cells + mc) (slots + ms) Q (F0 m (pc + 3) ls (.ref ad :: rest))) :
    W p l e R s m args below meth c H locs cells slots Q (F0 m pc ls st0) := by
  have hok := Nat.le_of_ble_eq_true hok
  have hC := hC0 ▸ mid_C ws o k hok
  have hFc := va_free (wc := Wc) hD hS hA (List.range' o k) hC
  have hPD := subPD (Wc := Wc) hP hD (List.range' o k) hC (va_nd_range _ _)
  refine va_callr (hr hPD.1 hPD.2 ((hE.kept hS.2.1).narrow hFc)) hS (fun q _ h => hFc q h) hFc (fun u ra t H1 locs1 ht hvm hw hB hz1 hk1 hS1 => ?_)
  obtain ⟨ha, hP1, hD1⟩ := hB
  subst ha
  rw [ht] at hP1
  obtain ⟨hP2, hD2⟩ := joinM hP hD o k hC0 hok hk1 hFc hP1 hD1
  exact kk u.1 u.2 H1 locs1 hw hP2 hD2 hS1
theorem cIg {ty : FieldType} {val : ρ → Int32} (hP : va_P g.1 vwCl ws H) (hD : va_D A0 ws) (hS : va_S A0 H0 H locs) (hA : ∀ q, H0.size ≤ q → A0 q) (hE : SK g A0 s H0)
    (hr : va_P g.1 vwCl Wc H → va_D A0 Wc → SK g (va_A Wc H.size) s H → va_Run p l e R s m args below meth c H locs cells slots mc ms (F0 m pc ls st0) rest (Qig g ty mm val W1 (va_A Wc H.size) ar) (va_A Wc H.size))
    (o k : Nat) (hC0 : (ws.drop o).take k = Wc) (hok : Nat.ble (o + k) ws.length = true)
    (kk : ∀ (u : ρ) (ga : Nat) (H1 : Heap) (locs1 : List Loc), mm = some u → narrow ty (.int (val u)) = .int (val u) → va_P g.1 vwCl (ws.take o ++ (W1 u ga ++ ws.drop (o + k))) H1 → va_D A0 (ws.take o ++ (W1 u ga ++ ws.drop (o + k))) → va_S A0 H0 H1 locs1 → W p l e R s m args below meth c H1 locs1 (cells + mc) (slots + ms) Q (F0 m (pc + 3) ls (.int (val u) :: rest))) :
    W p l e R s m args below meth c H locs cells slots Q (F0 m pc ls st0) := by
  have hok := Nat.le_of_ble_eq_true hok
  have hC := hC0 ▸ mid_C ws o k hok
  have hFc := va_free (wc := Wc) hD hS hA (List.range' o k) hC
  have hPD := subPD (Wc := Wc) hP hD (List.range' o k) hC (va_nd_range _ _)
  refine va_calli (hr hPD.1 hPD.2 ((hE.kept hS.2.1).narrow hFc)) hS (fun q _ h => hFc q h) hFc (fun r u t H1 locs1 ht hvm hw hB hz1 hk1 hS1 => ?_)
  obtain ⟨hP1, hD1⟩ := hB
  rw [ht] at hP1
  obtain ⟨h1, rfl, h3⟩ := hw
  obtain ⟨hP2, hD2⟩ := joinM hP hD o k hC0 hok hk1 hFc hP1 hD1
  exact kk u.1 u.2 H1 locs1 h1 h3 hP2 hD2 hS1
theorem retIg {u : ρ} {ga : Nat} {ty : FieldType} {val : ρ → Int32} (hx : p.tables.exec = Jvm.exec) (hb : c.code = cc) (hr : meth.sig.returnType = some ty) (hlocks : meth.locks = false) (hS : va_S A0 s.heap H locs) (hP : va_P g.1 vwCl (W1 u ga) H) (hD : va_D A0 (W1 u ga)) (hm : mm = some u) {v : Int32} (hv : v = val u) (hn : narrow ty (.int v) = .int v) (hdg : decode cc pc = .ok (.ireturn, 1)) :
    W p l e R s m args below meth c H locs cells slots (MQ below (Qig g ty mm val W1 A0) args s cells slots A0) (F0 m pc ls [.int v]) :=
  W.zret hx hb hr hn (fun t ht hW => ⟨⟨v, (u, ga), rfl, ⟨hm, hv, hn⟩, by rw [ht]; exact hP, hD⟩, hS.F ht⟩) hS.2.2 hdg hlocks
theorem retVg {u : ρ} {ga : Nat} (hx : p.tables.exec = Jvm.exec) (hb : c.code = cc) (hr : meth.sig.returnType = none) (hlocks : meth.locks = false) (hS : va_S A0 s.heap H locs) (hP : va_P g.1 vwCl (W1 u ga) H) (hD : va_D A0 (W1 u ga)) (hm : mm = some u) (hdg : decode cc pc = .ok (.return_, 1)) :
    W p l e R s m args below meth c H locs cells slots (MQ below (Qvg g mm W1 A0) args s cells slots A0) (F0 m pc ls []) :=
  W.vret hx hb hr (fun t ht hW => ⟨⟨(u, ga), rfl, hm, by rw [ht]; exact hP, hD⟩, hS.F ht⟩) hS.2.2 hdg hlocks
theorem retRg {u : ρ} {ga : Nat} {rt : FieldType} (hx : p.tables.exec = Jvm.exec) (hb : c.code = cc) (hr : meth.sig.returnType = some rt) (hrt : (∃ n, rt = .object n) ∨ ∃ t, rt = .array t) (hlocks : meth.locks = false) (hS : va_S A0 s.heap H locs) (hP : va_P g.1 vwCl (W1 u ga) H) (hD : va_D A0 (W1 u ga)) (hm : mm = some u) {v : Nat} (hdg : decode cc pc = .ok (.areturn, 1)) :
    W p l e R s m args below meth c H locs cells slots (MQ below (Qrg g mm v W1 A0) args s cells slots A0) (F0 m pc ls [.ref v]) :=
  W.aret hx hb hr hrt (Or.inr ⟨v, rfl⟩) (fun t ht hW => ⟨⟨(u, ga), v, rfl, hm, rfl, by rw [ht]; exact hP, hD⟩, hS.F ht⟩) hS.2.2 hdg hlocks
end SBC
/-- the first places of a row of bytes are bytes -/
def fitAll (m : Nat) (f : Nat → Int32) : Bool := (List.range m).all (fun j => fits .byte (.int (f j)))
theorem fitAll_at {m : Nat} {f : Nat → Int32} (h : fitAll m f = true) {j : Nat} (hj : j < m) : fits .byte (.int (f j)) = true := List.all_eq_true.mp h j (List.mem_range.mpr hj)
theorem narB (x : Int32) : vp_nar .byte x = x.toInt8.toInt32 := vp_nar_byte x
