section CALLS
variable {p : Program} {l : Launch} {e : Env} {R : Room} {s : State} {m : MethodId} {args : Array Value} {below : List Frame} {meth : Method} {c : Code} {H : Heap} {locs : List Loc} {cells slots : Nat} {Q : State → Prop}
variable {cc : ByteArray} {pc : Nat} {ls : Array Slot} {rest st0 : List Value} {g : GG} {y : MethodName} {b : ByteArray} {ml nL n idx : Nat} {ret : Option FieldType} {rm : Room} {Wc ws : va_W} {Qf : (Nat → Prop) → Array Value → State → Outcome → State → Prop} {mc ms : Nat} {own C : String} {a ci N : Nat} {T : u_T} {fs : List Value} {As : List Value} {A0 : Nat → Prop}
/-- a String constant is laid on top -/
theorem lc_S {own tx : String} {index q : Nat} (hx : p.tables.exec = Jvm.exec) (hb : c.code = cc) (hown : s.vm.findClass own = some m.cls) (hZ : vk_R own index tx q s) (hdg : decode cc pc = .ok (.ldc index, 2))
    (k : W p l e R s m args below meth c H locs cells slots Q (F0 m (pc + 2) ls (.ref q :: rest))) : W p l e R s m args below meth c H locs cells slots Q (F0 m pc ls rest) := va_ldcS hx hb hown hZ hdg k
theorem lc_SW {own tx : String} {index q : Nat} (hx : p.tables.exec = Jvm.exec) (hb : c.code = cc) (hown : s.vm.findClass own = some m.cls) (hZ : vk_R own index tx q s) (hdg : decode cc pc = .ok (.ldc_w index, 3))
    (k : W p l e R s m args below meth c H locs cells slots Q (F0 m (pc + 3) ls (.ref q :: rest))) : W p l e R s m args below meth c H locs cells slots Q (F0 m pc ls rest) := by
  intro T hT X
  obtain ⟨t, a1, b1⟩ := k T hT X
  refine ⟨t, ?_, b1⟩
  obtain ⟨kk, cf, i, a', h1, h2, h3, -, h4, h5⟩ := Cond.stringRef_spec hown hZ.1
  cases hZ.2.symm.trans h5
  obtain ⟨k', hk', he⟩ := X.warmed.alike.2.2 _ _ h1
  have hr' : k'.resolved[index]? = some (some (.string q)) := by
    rcases X.warmed.entry h1 hk' index with h | ⟨h, -⟩
    · rw [h]; exact h4
    · rw [h4] at h; cases h
  jvm_step X.here [hx, hb, hdg, Op.ldc_w.wp_string (e := e) (s := T) (f := F0 m pc ls rest) X.here.top hk' (by rw [he]; exact h2) h3 hr']
  exact a1
end CALLS
