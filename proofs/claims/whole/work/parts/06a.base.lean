/-! THE BASE: contracts of one form, calls with their places, loops that a function on the side mirrors -/
/-- the layout of the classes, the classes of int[], long[], byte[], the String constants and their rows of bytes -/
abbrev GG : Type := va_G × ClassId × ClassId × ClassId × (Nat → Nat) × (Nat → Nat)
abbrev tysOf (g : GG) : List (ClassId × FieldType) := [(g.2.1, .int), (g.2.2.1, .long), (g.2.2.2.1, .byte)]
abbrev adK (g : GG) : Nat → Nat := g.2.2.2.2.1
abbrev adV (g : GG) : Nat → Nat := g.2.2.2.2.2
/-- the texts: paper kind heavy place rule free limit ties, the word with, a comma -/
def lenS : List Nat := [5, 4, 5, 5, 4, 4, 5, 4, 6, 1]
def bytS : List (List Int32) := [[112, 97, 112, 101, 114], [107, 105, 110, 100], [104, 101, 97, 118, 121], [112, 108, 97, 99, 101], [114, 117, 108, 101], [102, 114, 101, 101], [108, 105, 109, 105, 116], [116, 105, 101, 115], [32, 119, 105, 116, 104, 32], [44]]
def strR : List (String × Nat × String × Nat) := [(RX9, 407, " with ", 8), (RX9, 412, ",", 9), (RX3, 94, "paper", 0), (RX3, 96, "kind", 1), (RX3, 98, "heavy", 2), (RX3, 100, "place", 3), (RX3, 102, "rule", 4), (RX3, 104, "free", 5), (RX3, 106, "limit", 6), (RX3, 108, "ties", 7), (RX10, 328, " with ", 8), (RX10, 372, "paper", 0), (RX10, 374, "kind", 1), (RX10, 375, "heavy", 2), (RX10, 376, "place", 3), (RX10, 377, "rule", 4), (RX10, 379, "free", 5), (RX10, 381, "limit", 6), (RX10, 382, "ties", 7)]
def nestW : List Cond := [Cond.methodLinkNest RX9 9 yX6_init RX9, Cond.methodLinkNest RX9 24 yX3_init RX9, Cond.methodLinkNest RX9 40 yX7_init RX9, Cond.methodLinkNest RX9 50 yX5_init RX9, Cond.methodLinkNest RX9 57 yX4_init RX9, Cond.methodLinkNest RX4 11 yX8_init RX9, Cond.methodLinkNest RX8 34 yX1_init RX9, Cond.methodLinkNest RX9 64 yX0_init RX9, Cond.methodLinkNest RX0 11 yX8_init RX9, Cond.methodLinkNest RX0 20 yX5_init RX9, Cond.methodLinkNest RX9 71 yX1_init RX9, Cond.methodLinkNest RX6 87 yX9_hasBit RX9, Cond.methodLinkNest RX6 69 yX9_markBy RX9, Cond.methodLinkNest RX6 73 yX9_weightBy RX9, Cond.methodLinkNest RX5 57 yX9_hasBit RX9, Cond.methodLinkNest RX4 82 yX9_hasBit RX9, Cond.methodLinkNest RX8 66 yX9_hasBit RX9, Cond.methodLinkNest RX0 75 yX9_hasBit RX9]
/-- private methods of the builder's superclass are what is run on a builder -/
def sbS : List Cond := [Cond.selects RJ4 yJ5_ensureCapacityInternal_d00df yJ5_ensureCapacityInternal_d00df, Cond.selects RJ4 yJ5_newCapacity_0f7a4 yJ5_newCapacity_0f7a4, Cond.selects RJ4 yJ5_putStringAt_47b60 yJ5_putStringAt_47b60, Cond.selects RJ4 yJ5_inflateIfNeededFor_a7421 yJ5_inflateIfNeededFor_a7421]
theorem sbS_good : ∀ w ∈ sbS, goodWord w = true ∧ w.onTables = true := by
  intro w hw
  unfold sbS at hw
  simp only [List.mem_cons, List.not_mem_nil, or_false] at hw
  rcases hw with rfl | rfl | rfl | rfl <;> exact ⟨rfl, rfl⟩
def NK (g : GG) (U : State) : Prop := va_K g.1 vwCl (tysOf g) U ∧ (∀ w ∈ nestW, va_Nw w U) ∧ (∀ q ∈ strR, vk_R q.1 q.2.1 q.2.2.1 (adK g q.2.2.2) U) ∧ ∀ w ∈ sbS, va_Nw w U
/-- a static row of a hundred bytes of the JDK's -/
def DG (n : String) (f : Nat → Int32) (A : Nat → Prop) (U : State) (H : Heap) : Prop := ∃ t : Nat, va_Z "java/lang/Integer" n "[B" (.ref t) A U H ∧ va_T .byte t 100 (fun j => .int (f j)) A U H
theorem DG.moved {n : String} {f : Nat → Int32} {A : Nat → Prop} {u U : State} {H : Heap} (hvm : u.vm.Alike U.vm) (h : DG n f A u H) : DG n f A U H := by
  obtain ⟨t, h1, h2⟩ := h
  exact ⟨t, h1.moved hvm, h2.moved hvm⟩
theorem DG.kept {n : String} {f : Nat → Int32} {A : Nat → Prop} {U : State} {H H1 : Heap} (h : DG n f A U H) (hq : ∀ a : Nat, a < H.size → ¬ A a → H1[a]? = H[a]?) : DG n f A U H1 := by
  obtain ⟨t, h1, h2⟩ := h
  exact ⟨t, h1.kept hq, h2.kept hq⟩
theorem DG.narrow {n : String} {f : Nat → Int32} {A B : Nat → Prop} {U : State} {H : Heap} (h : DG n f A U H) (hAB : ∀ q, B q → A q) : DG n f B U H := by
  obtain ⟨t, h1, h2⟩ := h
  exact ⟨t, h1.narrow hAB, h2.narrow hAB⟩
def dgO (j : Nat) : Int32 := nI (48 + j % 10)
def dgT (j : Nat) : Int32 := nI (48 + j / 10)
/-- what lies in the heap beside the world, and stays: String constants, statics of the JDK -/
def SK (g : GG) (A : Nat → Prop) (U : State) (H : Heap) : Prop := vk_S 10 lenS bytS (adK g) (adV g) A U H ∧ va_Z "java/lang/String" "COMPACT_STRINGS" "Z" (.int 1) A U H ∧ va_Zq "jdk/internal/util/Preconditions" "SIOOBE_FORMATTER" "Ljava/util/function/BiFunction;" A U H ∧ DG "DigitOnes" dgO A U H ∧ DG "DigitTens" dgT A U H
theorem SK.moved {g : GG} {A : Nat → Prop} {u U : State} {H : Heap} (hvm : u.vm.Alike U.vm) (h : SK g A u H) : SK g A U H := ⟨h.1.moved hvm, h.2.1.moved hvm, h.2.2.1.moved hvm, h.2.2.2.1.moved hvm, h.2.2.2.2.moved hvm⟩
theorem SK.kept {g : GG} {A : Nat → Prop} {U : State} {H H1 : Heap} (h : SK g A U H) (hq : ∀ a : Nat, a < H.size → ¬ A a → H1[a]? = H[a]?) : SK g A U H1 := ⟨h.1.kept hq, h.2.1.kept hq, h.2.2.1.kept hq, h.2.2.2.1.kept hq, h.2.2.2.2.kept hq⟩
theorem SK.narrow {g : GG} {A B : Nat → Prop} {U : State} {H : Heap} (h : SK g A U H) (hAB : ∀ q, B q → A q) : SK g B U H := ⟨h.1.narrow hAB, h.2.1.narrow hAB, h.2.2.1.narrow hAB, h.2.2.2.1.narrow hAB, h.2.2.2.2.narrow hAB⟩
theorem nest_warm : ∀ w ∈ nestW, ∃ a i x h, w = .methodLinkNest a i x h := by
  intro w hw
  simp only [nestW, List.mem_cons, List.not_mem_nil, or_false] at hw
  rcases hw with rfl | rfl | rfl | rfl | rfl | rfl | rfl | rfl | rfl | rfl | rfl | rfl | rfl | rfl | rfl | rfl | rfl | rfl <;> exact ⟨_, _, _, _, rfl⟩
theorem NK.moved {g : GG} {s U : State} (h : NK g s) (hW : s.WarmedH U.vm) : NK g U := by
  refine ⟨h.1.moved hW.alike, fun w hw => ?_, fun q hq => vk_R.warm hW (h.2.2.1 q hq), fun w hw => word_at hW (good_of_word (sbS_good w hw).1) (h.2.2.2 w hw)⟩
  obtain ⟨a, i, x, o, rfl⟩ := nest_warm w hw
  exact va_Nw.warmM hW (h.2.1 _ hw)
theorem NK.blind {g : GG} {U V : State} (e : U.vm = V.vm) (h : NK g U) : NK g V := by
  refine ⟨h.1.moved (by rw [e]; exact Vm.Alike.refl V.vm), fun w hw => ?_, fun q hq => vk_R.same e.symm (h.2.2.1 q hq), fun w hw => va_Nw.same (sbS_good w hw).2 e (h.2.2.2 w hw)⟩
  obtain ⟨a, i, x, o, rfl⟩ := nest_warm w hw
  exact va_Nw.same rfl e (h.2.1 _ hw)
/-! places -/
def putL {α : Type} : List α → List Nat → List α → List α
  | ws, i :: is, w :: wl => putL (ws.set i w) is wl
  | ws, _, _ => ws
theorem putL_out {α : Type} : ∀ (is : List Nat) (wl ws : List α) (k : Nat), k ∉ is → (putL ws is wl)[k]? = ws[k]?
  | [], wl, ws, k, _ => by cases wl <;> rfl
  | i :: is, [], ws, k, _ => rfl
  | i :: is, w :: wl, ws, k, h => by
    show (putL (ws.set i w) is wl)[k]? = ws[k]?
    rw [putL_out is wl _ k (fun q => h (List.mem_cons_of_mem _ q)), List.getElem?_set_ne (by rintro rfl; exact h List.mem_cons_self)]
theorem putL_in {α : Type} : ∀ (is : List Nat) (wl ws : List α) (j k : Nat) (x : α), va_nd is = true → is[j]? = some k → wl[j]? = some x → k < ws.length → (putL ws is wl)[k]? = some x
  | [], wl, ws, j, k, x, _, h, _, _ => by simp at h
  | i :: is, [], ws, j, k, x, _, _, h, _ => by simp at h
  | i :: is, w :: wl, ws, 0, k, x, hn, h1, h2, hl => by
    simp only [va_nd, Bool.and_eq_true, decide_eq_true_eq] at hn
    cases h1; cases h2
    show (putL (ws.set i w) is wl)[i]? = some w
    rw [putL_out is wl _ i hn.1, List.getElem?_set_self hl]
  | i :: is, w :: wl, ws, j + 1, k, x, hn, h1, h2, hl => by
    simp only [va_nd, Bool.and_eq_true, decide_eq_true_eq] at hn
    rw [List.getElem?_cons_succ] at h1 h2
    exact putL_in is wl (ws.set i w) j k x hn.2 h1 h2 (by rw [List.length_set]; exact hl)
theorem putL_map {α β : Type} (f : α → β) : ∀ (is : List Nat) (wl ws : List α), is.map (fun i => (ws.map f)[i]?) = (wl.map f).map some → (putL ws is wl).map f = ws.map f
  | [], wl, ws, _ => by cases wl <;> rfl
  | i :: is, [], ws, _ => rfl
  | i :: is, w :: wl, ws, h => by
    simp only [List.map_cons, List.cons.injEq] at h
    have e : (ws.set i w).map f = ws.map f := by
      rw [List.map_set]
      obtain ⟨hl, he⟩ := List.getElem?_eq_some_iff.mp h.1
      rw [← he, List.set_getElem_self]
    show (putL (ws.set i w) is wl).map f = ws.map f
    rw [putL_map f is wl (ws.set i w) (by rw [e]; exact h.2), e]
theorem putL_self {α : Type} (is : List Nat) (wl ws : List α) (h : is.map (fun i => ws[i]?) = wl.map some) : putL ws is wl = ws := by
  have := putL_map (fun x : α => x) is wl ws (by simpa using h)
  simpa using this
theorem D_same {A : Nat → Prop} {w1 w2 : va_W} (hD : va_D A w1) (h : w2.map Prod.fst = w1.map Prod.fst) : va_D A w2 := by
  have key : ∀ (k : Nat) (q : Nat × va_E), w2[k]? = some q → ∃ q0, w1[k]? = some q0 ∧ q0.1 = q.1 := by
    intro k q hk
    have h1 : (w2.map Prod.fst)[k]? = some q.1 := by rw [List.getElem?_map, hk]; rfl
    rw [h, List.getElem?_map] at h1
    cases hq : w1[k]? with
    | none => rw [hq] at h1; cases h1
    | some q0 => rw [hq] at h1; exact ⟨q0, rfl, Option.some.inj h1⟩
  refine ⟨fun i j x y hi hj hxy => ?_, fun k q hk => ?_⟩
  · obtain ⟨x0, h1, h2⟩ := key i x hi
    obtain ⟨y0, h3, h4⟩ := key j y hj
    exact hD.1 i j x0 y0 h1 h3 (h2.trans (hxy.trans h4.symm))
  · obtain ⟨q0, h1, h2⟩ := key k q hk
    rw [← h2]
    exact hD.2 k q0 h1
/-- behind a call, each cell at its place -/
theorem joinP {A0 : Nat → Prop} {D : va_G} {cl : List vw_C} {ws wc w1 : va_W} {H H1 : Heap} (hP : va_P D cl ws H) (hD : va_D A0 ws) (is : List Nat) (hC : is.map (fun i => ws[i]?) = wc.map some) (hn : va_nd is = true)
    (ha : w1.map Prod.fst = wc.map Prod.fst) (hk : ∀ q : Nat, q < H.size → ¬ va_A wc H.size q → H1[q]? = H[q]?) (hP1 : va_P D cl w1 H1) : va_P D cl (putL ws is w1) H1 ∧ va_D A0 (putL ws is w1) := by
  have hlen : w1.length = wc.length := by have := congrArg List.length ha; simpa using this
  have hlen2 : is.length = wc.length := by have := congrArg List.length hC; simpa using this
  have hmap : (putL ws is w1).map Prod.fst = ws.map Prod.fst := by
    refine putL_map Prod.fst is w1 ws ?_
    rw [ha]
    have := congrArg (List.map (Option.map Prod.fst)) hC
    simpa [List.map_map, Function.comp_def] using this
  refine ⟨fun k q hq => ?_, D_same hD hmap⟩
  by_cases hin : k ∈ is
  · obtain ⟨j, hj⟩ := List.getElem?_of_mem hin
    have hjl : j < w1.length := by
      have := (List.getElem?_eq_some_iff.mp hj).1
      omega
    have hkl : k < ws.length := by
      have h1 : (is.map (fun i => ws[i]?))[j]? = some (ws[k]?) := by rw [List.getElem?_map, hj]; rfl
      rw [hC, List.getElem?_map] at h1
      have hjc : j < wc.length := by omega
      rw [List.getElem?_eq_getElem hjc] at h1
      have h2 : some wc[j] = ws[k]? := Option.some.inj h1
      exact (List.getElem?_eq_some_iff.mp h2.symm).1
    have h3 := putL_in is w1 ws j k w1[j] hn hj (List.getElem?_eq_getElem hjl) hkl
    rw [h3] at hq
    cases hq
    exact hP1 j _ (List.getElem?_eq_getElem hjl)
  · rw [putL_out is w1 ws k hin] at hq
    refine (hP k q hq).kept (hk q.1 ((hP k q hq).lt) ?_)
    rintro (⟨j, e, hj⟩ | hge)
    · have h1 : (is.map (fun i => ws[i]?))[j]? = some (some (q.1, e)) := by rw [hC, List.getElem?_map, hj]; rfl
      rw [List.getElem?_map] at h1
      cases hi : is[j]? with
      | none => rw [hi] at h1; cases h1
      | some i =>
        rw [hi] at h1
        have h2 : ws[i]? = some (q.1, e) := Option.some.inj h1
        have := hD.1 k i q (q.1, e) hq h2 rfl
        exact hin (this ▸ List.mem_of_getElem? hi)
    · exact absurd ((hP k q hq).lt) (Nat.not_lt.mpr hge)
/-! ranges of places -/
def rgs (rs : List (Nat × Nat)) : List Nat := rs.flatMap (fun q => List.range' q.1 q.2)
def sel (ws : va_W) (rs : List (Nat × Nat)) : va_W := rs.flatMap (fun q => (ws.drop q.1).take q.2)
def spl (ws : va_W) : List (Nat × Nat) → va_W → va_W
  | [], _ => ws
  | (o, n) :: rs, w1 => spl (ws.take o ++ (w1.take n ++ ws.drop (o + n))) rs (w1.drop n)
def rok : List (Nat × Nat) → Bool
  | [] => true
  | q :: rs => rs.all (fun r => Nat.ble (q.1 + q.2) r.1 || Nat.ble (r.1 + r.2) q.1) && rok rs
def rin (ws : va_W) (rs : List (Nat × Nat)) : Bool := rs.all (fun q => Nat.ble (q.1 + q.2) ws.length)
theorem rin_of {ws : va_W} {rs : List (Nat × Nat)} (h : rin ws rs = true) : ∀ q ∈ rs, q.1 + q.2 ≤ ws.length := fun q hq => Nat.le_of_ble_eq_true (List.all_eq_true.mp h q hq)
theorem sel_at {ws : va_W} : ∀ {rs : List (Nat × Nat)} {wc : va_W}, (∀ q ∈ rs, q.1 + q.2 ≤ ws.length) → sel ws rs = wc → (rgs rs).map (fun i => ws[i]?) = wc.map some := by
  intro rs wc hb h
  subst h
  induction rs with
  | nil => rfl
  | cons q rs ih =>
    have h1 := ih (fun r hr => hb r (List.mem_cons_of_mem _ hr))
    simp only [rgs, sel, List.flatMap_cons, List.map_append] at h1 ⊢
    rw [h1]
    congr 1
    have hq := hb q List.mem_cons_self
    refine List.ext_getElem ?_ (fun i h2 h3 => ?_)
    · simp; omega
    · simp only [List.length_map, List.length_range'] at h2
      simp only [List.getElem_map, List.getElem_range', List.getElem_take, List.getElem_drop]
      rw [List.getElem?_eq_getElem (by omega)]
      congr 2; omega
theorem rgs_mem {rs : List (Nat × Nat)} {k : Nat} : k ∈ rgs rs ↔ ∃ q ∈ rs, q.1 ≤ k ∧ k < q.1 + q.2 := by
  simp only [rgs, List.mem_flatMap, List.mem_range'_1]
theorem va_nd_app : ∀ {l1 l2 : List Nat}, va_nd l1 = true → va_nd l2 = true → (∀ a ∈ l1, a ∉ l2) → va_nd (l1 ++ l2) = true
  | [], l2, _, h, _ => h
  | a :: l1, l2, h1, h2, h3 => by
    simp only [va_nd, Bool.and_eq_true, decide_eq_true_eq, List.cons_append] at h1 ⊢
    refine ⟨fun h => ?_, va_nd_app h1.2 h2 (fun b hb => h3 b (List.mem_cons_of_mem _ hb))⟩
    rcases List.mem_append.mp h with h | h
    · exact h1.1 h
    · exact h3 a List.mem_cons_self h
theorem va_nd_range : ∀ (n o : Nat), va_nd (List.range' o n) = true
  | 0, o => rfl
  | n + 1, o => by
    simp only [List.range'_succ, va_nd, Bool.and_eq_true, decide_eq_true_eq]
    exact ⟨by rw [List.mem_range'_1]; omega, va_nd_range n (o + 1)⟩
theorem rok_nd : ∀ {rs : List (Nat × Nat)}, rok rs = true → va_nd (rgs rs) = true
  | [], _ => rfl
  | q :: rs, h => by
    simp only [rok, Bool.and_eq_true, List.all_eq_true, Bool.or_eq_true] at h
    show va_nd (List.range' q.1 q.2 ++ rgs rs) = true
    refine va_nd_app (va_nd_range _ _) (rok_nd h.2) (fun a ha hb => ?_)
    obtain ⟨r, hr, h1, h2⟩ := rgs_mem.mp hb
    have h3 := h.1 r hr
    rw [List.mem_range'_1] at ha
    rcases h3 with h3 | h3 <;> have := Nat.le_of_ble_eq_true h3 <;> omega
theorem putL_app {α : Type} : ∀ (i1 i2 : List Nat) (w1 w2 ws : List α), i1.length = w1.length → putL ws (i1 ++ i2) (w1 ++ w2) = putL (putL ws i1 w1) i2 w2
  | [], i2, [], w2, ws, _ => by cases i2 <;> cases w2 <;> rfl
  | [], _, _ :: _, _, _, h => by simp at h
  | _ :: _, _, [], _, _, h => by simp at h
  | i :: i1, i2, w :: w1, w2, ws, h => putL_app i1 i2 w1 w2 (ws.set i w) (by simpa using h)
theorem putL_range {α : Type} : ∀ (w1 ws : List α) (o : Nat), o + w1.length ≤ ws.length → putL ws (List.range' o w1.length) w1 = ws.take o ++ (w1 ++ ws.drop (o + w1.length))
  | [], ws, o, _ => by simp [putL]
  | w :: w1, ws, o, h => by
    have h0 : o < ws.length := by simp only [List.length_cons] at h; omega
    simp only [List.length_cons, List.range'_succ]
    show putL (ws.set o w) (List.range' (o + 1) w1.length) w1 = _
    rw [putL_range w1 (ws.set o w) (o + 1) (by simp only [List.length_cons, List.length_set] at h ⊢; omega)]
    have e1 : (ws.set o w).take (o + 1) = ws.take o ++ [w] := by
      rw [List.take_succ, List.getElem?_set_self h0, List.take_set_of_le (Nat.le_refl o)]
      rfl
    have e2 : (ws.set o w).drop (o + 1 + w1.length) = ws.drop (o + (w1.length + 1)) := by
      rw [List.drop_set_of_lt (by omega)]
      congr 1; omega
    rw [e1, e2]
    simp
theorem putL_spl : ∀ (rs : List (Nat × Nat)) (ws w1 : va_W), (∀ q ∈ rs, q.1 + q.2 ≤ ws.length) → w1.length = (rgs rs).length → putL ws (rgs rs) w1 = spl ws rs w1
  | [], ws, w1, _, _ => by cases w1 <;> rfl
  | (o, n) :: rs, ws, w1, hb, hl => by
    have hl2 : w1.length = n + (rgs rs).length := by
      rw [hl]; show (List.range' o n ++ rgs rs).length = _; simp
    have hbo : o + n ≤ ws.length := hb (o, n) List.mem_cons_self
    have hn : (w1.take n).length = n := by simp; omega
    have e : putL ws (rgs ((o, n) :: rs)) w1 = putL (putL ws (List.range' o n) (w1.take n)) (rgs rs) (w1.drop n) := by
      show putL ws (List.range' o n ++ rgs rs) w1 = _
      conv => lhs; rw [← List.take_append_drop n w1]
      exact putL_app _ _ _ _ _ (by rw [hn]; simp)
    rw [e]
    have e2 := putL_range (w1.take n) ws o (by rw [hn]; exact hbo)
    rw [hn] at e2
    rw [e2]
    refine putL_spl rs _ _ (fun q hq => ?_) (by simp; omega)
    have := hb q (List.mem_cons_of_mem _ hq)
    simp only [List.length_append, List.length_take, List.length_drop]
    omega
/-! answers -/
def Qi {ρ : Type} (g : GG) (ty : FieldType) (mm : Option ρ) (val : ρ → Int32) (W1 : ρ → va_W) : (Nat → Prop) → Array Value → State → Outcome → State → Prop := fun A => va_Qi (fun r u => mm = some u ∧ r = val u ∧ narrow ty (.int r) = .int r) (fun u t => va_P g.1 vwCl (W1 u) t.heap ∧ va_D A (W1 u)) A
def Ql {ρ : Type} (g : GG) (mm : Option ρ) (val : ρ → Int64) (W1 : ρ → va_W) : (Nat → Prop) → Array Value → State → Outcome → State → Prop := fun A => va_Ql (fun r u => mm = some u ∧ r = val u) (fun u t => va_P g.1 vwCl (W1 u) t.heap ∧ va_D A (W1 u)) A
def Qv {ρ : Type} (g : GG) (mm : Option ρ) (W1 : ρ → va_W) : (Nat → Prop) → Array Value → State → Outcome → State → Prop := fun A => va_Qv (fun u => mm = some u) (fun u t => va_P g.1 vwCl (W1 u) t.heap ∧ va_D A (W1 u)) A
def Qr {ρ : Type} (g : GG) (mm : Option ρ) (ad : ρ → Nat) (W1 : ρ → va_W) : (Nat → Prop) → Array Value → State → Outcome → State → Prop := fun A => va_Qr (fun u => mm = some u) (fun u a t => a = ad u ∧ va_P g.1 vwCl (W1 u) t.heap ∧ va_D A (W1 u)) A
/-- a contract -/
def Ct (l : Launch) (g : GG) (y : MethodName) (b : ByteArray) (ml : Nat) (ret : Option FieldType) (rm : Room) (av : List Value) (W0 : va_W) (Qf : (Nat → Prop) → Array Value → State → Outcome → State → Prop) (mc ms : Nat) : Prop :=
  ∀ sz : Nat, Met l y (.code y b ml ret :: G) rm (va_Pc av (fun U => U.heap.size = sz ∧ va_P g.1 vwCl W0 U.heap ∧ NK g U ∧ va_D (fun _ => True) W0 ∧ SK g (va_A W0 sz) U U.heap)) (Qf (va_A W0 sz)) mc ms (va_A W0 sz)
theorem Ct.of {l : Launch} {g : GG} {y : MethodName} {b : ByteArray} {ml : Nat} {ret : Option FieldType} {rm : Room} {av : List Value} {W0 : va_W} {Qf : (Nat → Prop) → Array Value → State → Outcome → State → Prop} {mc ms : Nat} {own : String} (hy : plainName y.cls = true) (ho : y.cls = own) (hlen : (lg_sl av).length ≤ ml)
    (body : ∀ (p : Program) (e : Env) (s : State) (m : MethodId) (below : List Frame) (meth : Method) (c : Code), p.tables.exec = Jvm.exec → c.code = b → meth.sig.returnType = ret → c.maxLocals = ml → s.vm.findClass own = some m.cls → (∀ w ∈ G, w.before av.toArray s = true) → meth.locks = false → meth.name = y.name → NK g s →
      ∀ (A : Nat → Prop) (H : Heap) (locs : List Loc), (∀ q, s.heap.size ≤ q → A q) → va_P g.1 vwCl W0 H → va_D A W0 → va_S A s.heap H locs → SK g A s s.heap → ∀ ls : Array Slot, lv_has ls ml (lv_args 0 av) → W p l e rm s m av.toArray below meth c H locs 0 0 (MQ below (Qf A) av.toArray s mc ms A) (F0 m 0 ls [])) : Ct l g y b ml ret rm av W0 Qf mc ms := by
  intro sz
  refine Met.ofW (cc := b) (maxL := ml) (ret := ret) hy rfl ?_
  intro p e s m args below meth c s₁ B hml hv
  obtain ⟨rfl, hsz, hP, hK, hD0, hE0⟩ := hv
  have hts := atoms_spec (ws := .code y b ml ret :: G) B.pre
  subst hsz
  have hl := lv_entry av (n := ml) hlen
  rw [lg_entry_eq]
  exact body p e s m below meth c B.exec B.bytes B.returns hml (ho ▸ findClass_of_methodNamed B.named) (fun w hw => hts w (List.mem_cons_of_mem _ hw)) B.notSynchronized (name_of_methodNamed B.named B.method).1 hK _ _ _ (fun q h => Or.inr h) hP hD0.self va_S.rf hE0 _ hl
/-! what a callee's tables say -/
abbrev SV (C : String) (y : MethodName) (b : ByteArray) (ml : Nat) (ret : Option FieldType) (n : Nat) : Prop := Cond.instanceMethod y ∈ G ∧ Cond.selects C y y ∈ G ∧ Cond.initialized C ∈ G ∧ Cond.code y b ml ret ∈ G ∧ y.cls = C ∧ y.cls ≠ "java/lang/invoke/MethodHandle" ∧ y.cls ≠ "java/lang/invoke/VarHandle" ∧ (parseMethodDescriptor y.desc).map (fun d => d.parameters.length) = some n
abbrev SS (C : String) (y : MethodName) (b : ByteArray) (ml : Nat) (ret : Option FieldType) (n : Nat) : Prop := Cond.static y ∈ G ∧ Cond.initialized C ∈ G ∧ Cond.code y b ml ret ∈ G ∧ y.cls = C ∧ y.cls ≠ "java/lang/invoke/MethodHandle" ∧ y.cls ≠ "java/lang/invoke/VarHandle" ∧ (parseMethodDescriptor y.desc).map (fun d => d.parameters.length) = some n
abbrev SI (C : String) (y : MethodName) (b : ByteArray) (ml : Nat) (n : Nat) : Prop := Cond.instanceMethod y ∈ G ∧ Cond.initialized C ∈ G ∧ Cond.code y b ml none ∈ G ∧ y.cls = C ∧ y.name = "<init>" ∧ y.cls ≠ "java/lang/invoke/MethodHandle" ∧ y.cls ≠ "java/lang/invoke/VarHandle" ∧ (parseMethodDescriptor y.desc).map (fun d => d.parameters.length) = some n
abbrev Fit (rm R : Room) (ml mc ms cells slots : Nat) : Prop := rm.frames + 1 ≤ R.frames ∧ 8 + (ml + 11) + rm.locals ≤ R.locals ∧ rm.cells = mc ∧ rm.slots = ms ∧ cells + mc ≤ R.cells ∧ slots + ms ≤ R.slots
theorem G_in {w : Cond} (h : w ∈ G) : GoodIn G [w] := fun v hv => by
  rw [List.mem_singleton.mp hv]
  exact ⟨h, good_of_word (G_good w h).2⟩
theorem G_code {c : Cond} (h : c ∈ G) : GoodIn G (c :: G) := fun v hv => by
  rcases List.mem_cons.mp hv with rfl | hv
  · exact ⟨h, good_of_word (G_good _ h).2⟩
  · exact ⟨hv, good_of_word (G_good _ hv).2⟩
