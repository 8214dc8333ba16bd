/-! NEW THINGS: arrays of the layout's own classes, constructors and their ends -/
section NEWS
variable {p : Program} {l : Launch} {e : Env} {R : Room} {s : State} {m : MethodId} {args : Array Value} {below : List Frame} {meth : Method} {c : Code} {H : Heap} {locs : List Loc} {cells slots : Nat} {Q : State → Prop}
variable {cc : ByteArray} {pc : Nat} {ls : Array Slot} {rest st0 : List Value} {g : GG} {ws wr : va_W} {A0 : Nat → Prop} {H0 : Heap} {mc ms : Nat}
theorem arr_same {g : va_G} {cl : List vw_C} {ts : List (ClassId × FieldType)} {U : State} {ty : FieldType} {cA cB : ClassId} (hty : ∀ C, ty ≠ .object C) (h : va_K g cl (ts ++ [(cB, ty)]) U) (hm : (cA, ty) ∈ ts) : cB = cA := by
  obtain ⟨k, hk⟩ := List.getElem?_of_mem hm
  have hlt := (List.getElem?_eq_some_iff.mp hk).1
  have h1 := (h.2 k (cA, ty) (by rw [List.getElem?_append_left hlt]; exact hk)).2
  have h2 := (h.2 ts.length (cB, ty) (by rw [List.getElem?_append_right (Nat.le_refl _)]; simp)).2
  cases ty with
  | object C => exact absurd rfl (hty C)
  | _ => exact Option.some.inj (h2.symm.trans h1)
theorem nwI {n : Int32} {N : Nat} (hx : p.tables.exec = Jvm.exec) (hb : c.code = cc) (harr : (Cond.arrayClass .int).before args s = true) (hK : NK g s) (hP : va_P g.1 vwCl ws H) (hD : va_D A0 ws) (hS : va_S A0 H0 H locs) (hA : ∀ q, H0.size ≤ q → A0 q) (hn : ¬ n < 0) (hN : n.toNatClampNeg = N) (hby : N ≤ 65536) (hc : cells + 1 ≤ R.cells) (hs : slots + N ≤ R.slots) (hdg : decode cc pc = .ok (.newarray .int, 2))
    (kk : ∀ (q : Nat) (H1 : Heap), va_P g.1 vwCl (ws ++ [(q, .inl (g.2.1, N, .inl (fun _ => (0 : Int32))))]) H1 → va_D A0 (ws ++ [(q, .inl (g.2.1, N, .inl (fun _ => (0 : Int32))))]) → va_S A0 H0 H1 locs → W p l e R s m args below meth c H1 locs (cells + 1) (slots + N) Q (F0 m (pc + 2) ls (.ref q :: rest))) : W p l e R s m args below meth c H locs cells slots Q (F0 m pc ls (.int n :: rest)) := by
  refine va_newa (atype := .int) (a0 := (N, .inl (fun _ => (0 : Int32)))) hx hb harr rfl hK.1 hP hD hS hA (fun _ => rfl) hn hN (by show N * 4 ≤ 536870912; omega) hc hs hdg (fun q cA H1 hK1 hP1 hD1 hS1 => ?_)
  obtain rfl : cA = g.2.1 := arr_same (fun C h => by cases h) hK1 (List.Mem.head _)
  exact kk q H1 hP1 hD1 hS1
theorem nwL {n : Int32} {N : Nat} (hx : p.tables.exec = Jvm.exec) (hb : c.code = cc) (harr : (Cond.arrayClass .long).before args s = true) (hK : NK g s) (hP : va_P g.1 vwCl ws H) (hD : va_D A0 ws) (hS : va_S A0 H0 H locs) (hA : ∀ q, H0.size ≤ q → A0 q) (hn : ¬ n < 0) (hN : n.toNatClampNeg = N) (hby : N ≤ 65536) (hc : cells + 1 ≤ R.cells) (hs : slots + N ≤ R.slots) (hdg : decode cc pc = .ok (.newarray .long, 2))
    (kk : ∀ (q : Nat) (H1 : Heap), va_P g.1 vwCl (ws ++ [(q, .inl (g.2.2.1, N, .inr (.inl (fun _ => (0 : Int64)))))]) H1 → va_D A0 (ws ++ [(q, .inl (g.2.2.1, N, .inr (.inl (fun _ => (0 : Int64)))))]) → va_S A0 H0 H1 locs → W p l e R s m args below meth c H1 locs (cells + 1) (slots + N) Q (F0 m (pc + 2) ls (.ref q :: rest))) : W p l e R s m args below meth c H locs cells slots Q (F0 m pc ls (.int n :: rest)) := by
  refine va_newa (atype := .long) (a0 := (N, .inr (.inl (fun _ => (0 : Int64))))) hx hb harr rfl hK.1 hP hD hS hA (fun _ => rfl) hn hN (by show N * 8 ≤ 536870912; omega) hc hs hdg (fun q cA H1 hK1 hP1 hD1 hS1 => ?_)
  obtain rfl : cA = g.2.2.1 := arr_same (fun C h => by cases h) hK1 (List.Mem.tail _ (List.Mem.head _))
  exact kk q H1 hP1 hD1 hS1
theorem nwB {n : Int32} {N : Nat} (hx : p.tables.exec = Jvm.exec) (hb : c.code = cc) (harr : (Cond.arrayClass .byte).before args s = true) (hK : NK g s) (hP : va_P g.1 vwCl ws H) (hD : va_D A0 ws) (hS : va_S A0 H0 H locs) (hA : ∀ q, H0.size ≤ q → A0 q) (hn : ¬ n < 0) (hN : n.toNatClampNeg = N) (hby : N ≤ 65536) (hc : cells + 1 ≤ R.cells) (hs : slots + N ≤ R.slots) (hdg : decode cc pc = .ok (.newarray .byte, 2))
    (kk : ∀ (q : Nat) (H1 : Heap), va_P g.1 vwCl (ws ++ [(q, .inl (g.2.2.2.1, N, .inl (fun _ => (0 : Int32))))]) H1 → va_D A0 (ws ++ [(q, .inl (g.2.2.2.1, N, .inl (fun _ => (0 : Int32))))]) → va_S A0 H0 H1 locs → W p l e R s m args below meth c H1 locs (cells + 1) (slots + N) Q (F0 m (pc + 2) ls (.ref q :: rest))) : W p l e R s m args below meth c H locs cells slots Q (F0 m pc ls (.int n :: rest)) := by
  refine va_newa (atype := .byte) (a0 := (N, .inl (fun _ => (0 : Int32)))) hx hb harr rfl hK.1 hP hD hS hA (fun _ => rfl) hn hN (by show N * 1 ≤ 536870912; omega) hc hs hdg (fun q cA H1 hK1 hP1 hD1 hS1 => ?_)
  obtain rfl : cA = g.2.2.2.1 := arr_same (fun C h => by cases h) hK1 (List.Mem.tail _ (List.Mem.tail _ (List.Mem.head _)))
  exact kk q H1 hP1 hD1 hS1
/-- what a constructor leaves: the object at its address, the cells that it made at others -/
def Qn (g : GG) (h : Nat) (W1 : (Nat → Nat) → va_W) : (Nat → Prop) → Array Value → State → Outcome → State → Prop := fun A => va_Qv (fun a : Nat → Nat => a 0 = h) (fun a t => va_P g.1 vwCl (W1 a) t.heap ∧ va_D A (W1 a)) A
theorem atEnd {α : Type} (wr : List α) (x : α) : ([wr.length].map (fun i => (wr ++ [x])[i]?)) = [x].map some := by simp
theorem ahead {α : Type} (wr : List α) (x : α) : ((List.range wr.length).map (fun i => (wr ++ [x])[i]?)) = wr.map some := by
  refine List.ext_getElem (by simp) (fun i h1 h2 => ?_)
  simp only [List.length_map, List.length_range] at h1
  simp only [List.getElem_map, List.getElem_range]
  rw [List.getElem?_append_left h1, List.getElem?_eq_getElem h1]
theorem nd_range (n : Nat) : va_nd (List.range n) = true := by rw [List.range_eq_range']; exact va_nd_range n 0
theorem cN {q : Nat} {e0 : va_E} {W1 : (Nat → Nat) → va_W} {ar : Array Value} (hP : va_P g.1 vwCl (wr ++ [(q, e0)]) H) (hD : va_D A0 (wr ++ [(q, e0)])) (hS : va_S A0 H0 H locs) (hA : ∀ q, H0.size ≤ q → A0 q) (hE : SK g A0 s H0)
    (hr : va_P g.1 vwCl [(q, e0)] H → va_D A0 [(q, e0)] → SK g (va_A [(q, e0)] H.size) s H → va_Run p l e R s m args below meth c H locs cells slots mc ms (F0 m pc ls st0) rest (Qn g q W1 (va_A [(q, e0)] H.size) ar) (va_A [(q, e0)] H.size))
    (kk : ∀ (a : Nat → Nat) (H1 : Heap) (locs1 : List Loc), q = a 0 → va_P g.1 vwCl (wr ++ W1 a) H1 → va_D A0 (wr ++ W1 a) → va_S A0 H0 H1 locs1 → W p l e R s m args below meth c H1 locs1 (cells + mc) (slots + ms) Q (F0 m (pc + 3) ls rest)) :
    W p l e R s m args below meth c H locs cells slots Q (F0 m pc ls st0) := by
  have hC := atEnd wr (q, e0)
  have hFc := va_free (wc := [(q, e0)]) hD hS hA [wr.length] hC
  have hPD := subPD (Wc := [(q, e0)]) hP hD [wr.length] hC (by simp [va_nd])
  refine va_callv (hr hPD.1 hPD.2 ((hE.kept hS.2.1).narrow hFc)) hS (fun q _ h => hFc q h) hFc (fun u t H1 locs1 ht hvm hw hB hz1 hk1 hS1 => ?_)
  obtain ⟨hP1, hD1⟩ := hB
  rw [ht] at hP1
  obtain ⟨hP2, hD2⟩ := va_join (wr := wr) (w1 := W1 u) hP hD [wr.length] (List.range wr.length) hC (ahead wr (q, e0)) (nd_range _) (fun i hi hc => by simp at hi hc; omega) hk1 hFc hP1 hD1
  exact kk u H1 locs1 hw.symm hP2 hD2 hS1
theorem endN {h : Nat} {a : Nat → Nat} {W1 : (Nat → Nat) → va_W} (hx : p.tables.exec = Jvm.exec) (hb : c.code = cc) (hr : meth.sig.returnType = none) (hlocks : meth.locks = false) (hS : va_S A0 s.heap H locs) (hP : va_P g.1 vwCl ws H) (hD : va_D A0 ws) (ha : a 0 = h) (is : List Nat) (hnd : va_nd is = true) (hs : is.map (fun i => ws[i]?) = (W1 a).map some) (hdg : decode cc pc = .ok (.return_, 1)) :
    W p l e R s m args below meth c H locs cells slots (MQ below (Qn g h W1 A0) args s cells slots A0) (F0 m pc ls []) := by
  have hPD := subPD (Wc := W1 a) hP hD is hs hnd
  exact W.vret hx hb hr (fun t ht hW => ⟨⟨a, rfl, ha, by rw [ht]; exact hPD.1, hPD.2⟩, hS.F ht⟩) hS.2.2 hdg hlocks
end NEWS
