/-! ===== new int[5][7]: one picture of the heap for each turn (the cells behind H, place by place), and the five turns one after another ===== -/
def gI (c : ClassId) : Cell := arrV c 7 (fun _ => .int 0)
def gO (c : ClassId) (h i : Nat) : Cell := arrV c 5 (fun j => va_rf (if j < i then some (h + 1 + j) else none))
/-- what lies at q when i rows lie behind the array that stands at the old heap's end -/
def g_pic (cX cY : ClassId) (H : Heap) (i q : Nat) : Option Cell :=
  if q < H.size then H[q]? else if q = H.size then some (gO cX H.size i) else if q ≤ H.size + i then some (gI cY) else none
theorem g_put (c : ClassId) (h i : Nat) : (gO c h i).setSlot i (.ref (h + 1 + i)) = gO c h (i + 1) := by
  rw [gO, arrV_store]
  apply congrArg (arrV c 5)
  funext j
  show (if j = i then Value.ref (h + 1 + i) else va_rf (if j < i then some (h + 1 + j) else none)) = va_rf (if j < i + 1 then some (h + 1 + j) else none)
  rcases Nat.lt_trichotomy j i with h1 | h1 | h1
  · rw [if_neg (Nat.ne_of_lt h1), if_pos h1, if_pos (by omega)]
  · rw [if_pos h1, if_pos (by omega), h1]
    rfl
  · rw [if_neg (Nat.ne_of_gt h1), if_neg (by omega), if_neg (by omega)]
theorem g_two {T : State} {x y : Cell} {a : Nat} (ha : a < T.heap.size) (q : Nat) : ((T.pushCell x).setCell a y).heap[q]? = if q = a then some y else if q = T.heap.size then some x else T.heap[q]? := by
  show ((T.heap.push x).setIfInBounds a y)[q]? = _
  rw [Array.getElem?_setIfInBounds, Array.getElem?_push, Array.size_push]
  by_cases h1 : q = a
  · rw [if_pos h1.symm, if_pos (by omega), if_pos h1]
  · rw [if_neg (fun z => h1 z.symm), if_neg h1]
section GA
variable {p : Program} {l : Launch} {e : Env} {R : Room} {s : State} {m : MethodId} {args : Array Value} {below : List Frame} {meth : Method} {c : Code} {H : Heap} {locs : List Loc} {cells slots : Nat} {cX cY : ClassId} {v : Vm}
/-- behind i turns -/
def GSit (p : Program) (l : Launch) (e : Env) (R : Room) (s : State) (m : MethodId) (args : Array Value) (below : List Frame) (meth : Method) (c : Code) (H : Heap) (locs : List Loc) (cells slots : Nat) (cX cY : ClassId) (v : Vm) (i : Nat) (T : State) : Prop :=
  (T.vm = v ∧ T.heap.size = H.size + (1 + i) ∧ ∀ q : Nat, T.heap[q]? = g_pic cX cY H i q) ∧
  ∃ L : List Loc, (∀ z ∈ L, z ∈ locs ∨ z.base = H.size) ∧ Stand p l e R s m args below meth c T L (cells + (1 + i)) (slots + (5 + 7 * i))
theorem g_sit0 {T : State} (hv : T.vm = v) (hH : T.heap = H) (X : Stand p l e R s m args below meth c T locs cells slots) : GSit p l e R s m args below meth c H locs cells slots cX cY v 0 (T.pushCell (gO cX H.size 0)) := by
  have Y := X.pushed (gO cX H.size 0)
  rw [show (gO cX H.size 0).slots.size = 5 from arrV_size _ _ _] at Y
  refine ⟨⟨hv, by show (T.heap.push _).size = _; rw [Array.size_push, hH], fun q => ?_⟩, locs, fun z hz => Or.inl hz, Y⟩
  show (T.heap.push _)[q]? = _
  rw [Array.getElem?_push, hH]
  unfold g_pic
  by_cases h1 : q < H.size
  · rw [if_neg (by omega), if_pos h1]
  · by_cases h2 : q = H.size
    · rw [if_pos h2, if_neg h1, if_pos h2]
    · rw [if_neg h2, if_neg h1, if_neg h2, if_neg (by omega), Array.getElem?_eq_none (by omega)]
theorem g_top {T : State} {i : Nat} (S : GSit p l e R s m args below meth c H locs cells slots cX cY v i T) : T.heap[H.size]? = some (gO cX H.size i) := by
  rw [S.1.2.2 H.size, g_pic, if_neg (Nat.lt_irrefl _), if_pos rfl]
theorem g_sitS {T : State} {i : Nat} (S : GSit p l e R s m args below meth c H locs cells slots cX cY v i T) : GSit p l e R s m args below meth c H locs cells slots cX cY v (i + 1) ((T.pushCell (gI cY)).setCell H.size (gO cX H.size (i + 1))) := by
  obtain ⟨⟨hv, hz, hq⟩, L, hL, X⟩ := S
  have hlt : H.size < T.heap.size := by omega
  have htop : (T.pushCell (gI cY)).heap[H.size]? = some (gO cX H.size i) := by
    show (T.heap.push _)[H.size]? = _
    rw [Array.getElem?_push, if_neg (by omega), hq, g_pic, if_neg (Nat.lt_irrefl _), if_pos rfl]
  have Y := (X.pushed (gI cY)).stored htop i (.ref (H.size + 1 + i))
  rw [g_put, show (gI cY).slots.size = 7 from arrV_size _ _ _] at Y
  refine ⟨⟨hv, ?_, fun q => ?_⟩, L ++ [⟨H.size, i⟩], fun z h => ?_, ?_⟩
  · show ((T.heap.push _).setIfInBounds _ _).size = _
    rw [Array.size_setIfInBounds, Array.size_push]
    omega
  · rw [g_two hlt, hq, hz]
    unfold g_pic
    repeat' split
    all_goals first | rfl | (exfalso; omega)
  · rcases List.mem_append.mp h with h | h
    · exact hL z h
    · exact Or.inr (by rw [List.mem_singleton.mp h])
  · rw [show cells + (1 + (i + 1)) = cells + (1 + i) + 1 by omega, show slots + (5 + 7 * (i + 1)) = slots + (5 + 7 * i) + 7 by omega]
    exact Y
/-- a turn: a row is made, and named in the array; the state behind it stands before the run is looked at -/
theorem g_turn {T : State} {i : Nat} {kX kY : Class} {cq : ClassId} (hi : i < 5) (S : GSit p l e R s m args below meth c H locs cells slots cX cY v i T)
    (hX : v.classes[cX]? = some kX) (hXk : kX.kind = .array cY (.array .int)) (hY : v.classes[cY]? = some kY) (hYk : kY.kind = .array cq .int) (hc : cells + 6 ≤ R.cells) (hs : slots + 40 ≤ R.slots) :
    ∃ T' : State, GSit p l e R s m args below meth c H locs cells slots cX cY v (i + 1) T' ∧ ∀ (E : CtlPost) (d : Bool) (acts : List Action) (f : JFrame) (Q : ForInStep PUnit → Pre), (∀ (d' : Bool) (acts' : List Action), Q (.yield PUnit.unit) d' acts' (T'.setTop f)) →
      Sem.wp (do Jvm.writeLoc H.size i (.ref (← multianewarray.make cY [I 7])); Pure.pure (ForInStep.yield PUnit.unit)) Q E e d acts (T.setTop f) := by
  refine ⟨_, g_sitS S, fun E d acts f Q k => ?_⟩
  have hlt := g_top S
  obtain ⟨S1, L, hL, X⟩ := id S
  obtain ⟨r1, r2⟩ := X.roomAbove (a := 1) (b := 7) (by omega) (by omega)
  have n7 : (I 7).toNatClampNeg = 7 := by decide
  have hYT : (T.setTop f).vm.classes[cY]? = some kY := by rw [State.vm_setTop, S1.1]; exact hY
  rw [wp_bind', multianewarray.make]
  simp only [wp_bind', W.ite, wp_pure', W.theClass, hYT, hYk, Option.some.injEq, exists_eq_left', show ¬ (I 7 < 0) by decide, if_false, n7]
  refine W.newArray_of hYT hYk (by rw [Launch.admits_arrayLengthLimit X.admits]; omega) (by rw [Launch.admits_maxHeapBytes X.admits]; decide) (by rw [State.heap_setTop]; omega) (by show T.slotsUsed + 7 ≤ _; omega) rfl fun acts1 => ?_
  rw [show ({ cls := cY, slots := Array.replicate 7 (defaultValue .int) } : Cell) = gI cY from arrV_new cY 7 (.int 0), State.heap_setTop, S1.2.1, State.pushCell_setTop]
  have hold : ((T.pushCell (gI cY)).setTop f).heap[H.size]? = some (gO cX H.size i) := by
    rw [State.heap_setTop]
    show (T.heap.push _)[H.size]? = _
    rw [Array.getElem?_push, if_neg (by omega)]
    exact hlt
  rw [wp_bind']
  refine (W.writeLoc _ _ _ _).mpr ⟨gO cX H.size i, hold, (fun z => by cases z), by rw [show (gO cX H.size i).slots.size = 5 from arrV_size _ _ _]; exact hi, ?_, ?_⟩
  · show State.fitsSlot _ cX _ _ _ = true
    unfold State.fitsSlot State.slotType?
    rw [State.vm_setTop, State.vm_pushCell, S1.1, hX]
    show (match (match kX.kind with | .array _ ty => some ty | _ => kX.instanceTypes[i]?) with | some ty => fits ty _ | none => false) = true
    rw [hXk]
    rfl
  · rw [State.setCell_setTop, show H.size + (1 + i) = H.size + 1 + i by omega, g_put, wp_pure']
    exact k _ _
end GA
section GB
variable {s : State} {args : Array Value} {cX cY : ClassId}
/-- the classes of the array and of its rows -/
theorem g_words (hover : va_Nw wMul s) (harr : (Cond.arrayClass .int).before args s = true) (hcX : s.vm.findClass "[[I" = some cX) (hcY : s.vm.findClass "[I" = some cY) :
    (∃ k, s.vm.classes[cX]? = some k ∧ k.kind = .array cY (.array .int)) ∧ ∃ k q, s.vm.classes[cY]? = some k ∧ k.kind = .array q .int := by
  obtain ⟨y, x, kx, w1, -, w2, w3, w4⟩ := arrayOverA_spec (t := .int) hover
  obtain ⟨y', ky, q, w5, w6, w7⟩ := Cond.arrayClass_spec harr
  have ex : some x = some cX := w4.symm.trans hcX
  have ey : some y = some cY := w1.symm.trans hcY
  have ey' : some y' = some cY := w5.symm.trans hcY
  injection ex with ex; injection ey with ey; injection ey' with ey'
  subst ex; subst ey; subst ey'
  exact ⟨⟨kx, w2, w3⟩, ky, q, w6, w7⟩
theorem g_alike {u U : Vm} (h : u.Alike U) {x : ClassId} {k : Class} {K : Kind} (h1 : u.classes[x]? = some k) (h2 : k.kind = K) : ∃ k', U.classes[x]? = some k' ∧ k'.kind = K := by
  obtain ⟨k', h3, h4⟩ := h.2.2 _ _ h1
  exact ⟨k', h3, by rw [h4]; exact h2⟩
end GB
section GC
variable {p : Program} {l : Launch} {e : Env} {R : Room} {s : State} {m : MethodId} {args : Array Value} {below : List Frame} {meth : Method} {c : Code} {H : Heap} {locs : List Loc} {cells slots : Nat} {cX cY : ClassId} {v : Vm}
/-- the whole operation, under any top frame f -/
theorem g_make {T : State} {kX kY : Class} {cq : ClassId} (hv : T.vm = v) (hH : T.heap = H) (X : Stand p l e R s m args below meth c T locs cells slots)
    (hX : v.classes[cX]? = some kX) (hXk : kX.kind = .array cY (.array .int)) (hY : v.classes[cY]? = some kY) (hYk : kY.kind = .array cq .int) (hc : cells + 6 ≤ R.cells) (hs : slots + 40 ≤ R.slots) :
    ∃ T5 : State, GSit p l e R s m args below meth c H locs cells slots cX cY v 5 T5 ∧ ∀ (E : CtlPost) (d : Bool) (acts : List Action) (f : JFrame) (Q : Addr → Pre), (∀ (d' : Bool) (acts' : List Action), Q H.size d' acts' (T5.setTop f)) →
      Sem.wp (multianewarray.make cX [I 5, I 7]) Q E e d acts (T.setTop f) := by
  obtain ⟨T1, S1, w1⟩ := g_turn (by omega) (g_sit0 (cX := cX) (cY := cY) hv hH X) hX hXk hY hYk hc hs
  obtain ⟨T2, S2, w2⟩ := g_turn (by omega) S1 hX hXk hY hYk hc hs
  obtain ⟨T3, S3, w3⟩ := g_turn (by omega) S2 hX hXk hY hYk hc hs
  obtain ⟨T4, S4, w4⟩ := g_turn (by omega) S3 hX hXk hY hYk hc hs
  obtain ⟨T5, S5, w5⟩ := g_turn (by omega) S4 hX hXk hY hYk hc hs
  refine ⟨T5, S5, fun E d acts f Q k => ?_⟩
  obtain ⟨r1, r2⟩ := X.roomAbove (a := 1) (b := 5) (by omega) (by omega)
  have hXT : (T.setTop f).vm.classes[cX]? = some kX := by rw [State.vm_setTop, hv]; exact hX
  have n5 : (I 5).toNatClampNeg = 5 := by decide
  have z5 : ((I 5 == 0) = true) = False := by rw [show (I 5 == 0) = false by decide]; simp
  have g0 : ({ cls := cX, slots := Array.replicate 5 .null } : Cell) = gO cX H.size 0 := by
    rw [arrV_new cX 5 .null]
    rfl
  rw [multianewarray.make]
  simp only [wp_bind', W.ite, wp_pure', W.theClass, hXT, hXk, Option.some.injEq, exists_eq_left', show ¬ (I 5 < 0) by decide, if_false, n5, z5]
  refine W.newArray_of hXT hXk (by rw [Launch.admits_arrayLengthLimit X.admits]; omega) (by rw [Launch.admits_maxHeapBytes X.admits]; decide) (by rw [State.heap_setTop]; omega) (by show T.slotsUsed + 5 ≤ _; omega) rfl fun acts1 => ?_
  rw [g0, State.heap_setTop, State.pushCell_setTop, hH]
  rw [wp_bind', Std.Legacy.Range.forIn_eq_forIn_range']
  show Sem.wp (forIn [0, 1, 2, 3, 4] PUnit.unit _) _ E e _ _ _
  rw [List.forIn_cons, wp_bind']
  refine w1 _ _ _ _ _ fun _ _ => ?_
  show Sem.wp (forIn [1, 2, 3, 4] PUnit.unit _) _ E e _ _ _
  rw [List.forIn_cons, wp_bind']
  refine w2 _ _ _ _ _ fun _ _ => ?_
  show Sem.wp (forIn [2, 3, 4] PUnit.unit _) _ E e _ _ _
  rw [List.forIn_cons, wp_bind']
  refine w3 _ _ _ _ _ fun _ _ => ?_
  show Sem.wp (forIn [3, 4] PUnit.unit _) _ E e _ _ _
  rw [List.forIn_cons, wp_bind']
  refine w4 _ _ _ _ _ fun _ _ => ?_
  show Sem.wp (forIn [4] PUnit.unit _) _ E e _ _ _
  rw [List.forIn_cons, wp_bind']
  refine w5 _ _ _ _ _ fun d' acts' => ?_
  exact k d' acts'
end GC
section GD
variable {p : Program} {l : Launch} {e : Env} {R : Room} {s : State} {m : MethodId} {args : Array Value} {below : List Frame} {meth : Method} {c : Code} {H : Heap} {locs : List Loc} {cells slots : Nat} {Q : State → Prop}
variable {cc : ByteArray} {pc : Nat} {ls : Array Slot} {rest : List Value} {D : va_G} {cl : List vw_C} {A : Nat → Prop} {ws : va_W} {H0 : Heap} {cX cY : ClassId}
theorem va_gr (hexec : p.tables.exec = Jvm.exec) (hb : c.code = cc) {own : String} {index : Nat} (hown : s.vm.findClass own = some m.cls) (hclink : (Cond.classLink own index "[[I").before args s = true) (hover : va_Nw wMul s) (harr : (Cond.arrayClass .int).before args s = true) (hcX : s.vm.findClass "[[I" = some cX) (hcY : s.vm.findClass "[I" = some cY)
    (hP : va_P D cl ws H) (hD : va_D A ws) (hS : va_S A H0 H locs) (hA : ∀ q, H0.size ≤ q → A q) (hcells : cells + 6 ≤ R.cells) (hslots : slots + 40 ≤ R.slots) (hdg : decode cc pc = .ok (.multianewarray index 2, 4))
    (kk : ∀ (H1 : Heap) (locs1 : List Loc), (∀ q : Nat, q < H.size → H1[q]? = H[q]?) → H1.size = H.size + 6 → H1[H.size]? = some (gO cX H.size 5) → (∀ j : Nat, j < 5 → H1[H.size + 1 + j]? = some (gI cY)) → va_S A H0 H1 locs1 →
      W p l e R s m args below meth c H1 locs1 (cells + 6) (slots + 40) Q (F0 m (pc + 4) ls (.ref H.size :: rest))) : W p l e R s m args below meth c H locs cells slots Q (F0 m pc ls (.int (I 7) :: .int (I 5) :: rest)) := by
  intro T hT X
  obtain ⟨⟨k1, a1, a2⟩, k2, q2, a3, a4⟩ := g_words hover harr hcX hcY
  obtain ⟨x, hx, hready⟩ := Cond.classLink_spec hown hclink e.platform (by rw [X.admits.platform])
  rw [hcX] at hx
  injection hx with hx
  subst hx
  obtain ⟨hres, hwarm, -⟩ := State.classEntry (e := e) X.warmed hready
  obtain ⟨k1', b1, b2⟩ := g_alike hwarm.alike a1 a2
  obtain ⟨k2', b3, b4⟩ := g_alike hwarm.alike a3 a4
  have hend : ∀ (T5 : State), GSit p l e R s m args below meth c H locs cells slots cX cY (T.vm.noted m.cls index (.cls cX)) 5 T5 → ∃ t, Steps p.tables e below (T5.setTop (F0 m (pc + 4) ls (.ref H.size :: rest))) t ∧ Q t := by
    rintro T5 ⟨⟨-, hz, hq⟩, L, hL, X5⟩
    have old : ∀ q : Nat, q < H.size → T5.heap[q]? = H[q]? := fun q h => by rw [hq, g_pic, if_pos h]
    have new : ∀ z ∈ L, A z.base := fun z h => (hL z h).elim (hS.2.2 z) fun h => by rw [h]; exact hA _ hS.1
    exact kk T5.heap L old hz (by rw [hq, g_pic, if_neg (Nat.lt_irrefl _), if_pos rfl]) (fun j hj => by rw [hq, g_pic, if_neg (by omega), if_neg (by omega), if_pos (by omega)])
      ⟨by have := hS.1; omega, fun q h h' => (old q (Nat.lt_of_lt_of_le h hS.1)).trans (hS.2.1 q h h'), new⟩ T5 rfl X5
  obtain ⟨T5, S5, w⟩ := g_make (T := T.setVm (T.vm.noted m.cls index (.cls cX))) (v := T.vm.noted m.cls index (.cls cX)) rfl hT (X.noted hwarm) b1 b2 b3 b4 hcells hslots
  obtain ⟨-, L5, -, X5⟩ := id S5
  obtain ⟨t, st, hQ⟩ := hend T5 S5
  refine ⟨t, ?_, hQ⟩
  subst hb
  jvm_step X.here [hexec, hdg]
  rw [multianewarray.sem, wp_bind', W.resolveClassAt_links (State.method?_setTop (F0 m pc ls (.int (I 7) :: .int (I 5) :: rest)) X.here.top) hres, wp_bind', W.popN, if_neg (by decide)]
  refine ⟨_, State.topJava?_setTop' (s := T.setVm _) _ X.here.top, [.int (I 5), .int (I 7)], rest, rfl, rfl, ?_⟩
  simp only [List.mapM_cons, List.mapM_nil, wp_bind', wp_pure']
  have once : ∀ (V : Vm) (g0 g1 : JFrame), ((T.setTop g0).setVm V).setTop g1 = (T.setVm V).setTop g1 := fun V g0 g1 => State.setTop_setTop (s := T.setVm V) g0 g1
  rw [once]
  refine w _ _ _ _ _ fun d' acts' => ?_
  rw [wp_bind', W.mark, W.pushRef]
  refine ⟨_, State.topJava?_setTop' (s := T5) _ X5.here.top, fun acts'' => ?_⟩
  rw [State.setTop_setTop]
  simpa [jvm, X5.here.top] using st
end GD
