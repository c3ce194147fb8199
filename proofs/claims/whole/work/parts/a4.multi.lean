/-! ===== new int[5][7] ===== -/
def gI (c : ClassId) : Cell := arrV c 7 (fun _ => .int 0)
def gO (c : ClassId) (h i : Nat) : Cell := arrV c 5 (fun j => va_rf (if j < i then some (h + 1 + j) else none))
/-- the outer array, and i of its rows -/
def gF (T : State) (c comp : ClassId) : Nat → State
  | 0 => T.pushCell (gO c T.heap.size 0)
  | i + 1 => ((gF T c comp i).pushCell (gI comp)).setCell T.heap.size (gO c T.heap.size (i + 1))
theorem gO_new (c : ClassId) (h : Nat) : ({ cls := c, slots := Array.replicate 5 .null, vm := .none } : Cell) = gO c h 0 := by
  rw [arrV_new]
  refine congrArg (arrV c 5) (funext fun j => ?_)
  simp [va_rf]
theorem gI_new (c : ClassId) : ({ cls := c, slots := Array.replicate 7 (.int 0), vm := .none } : Cell) = gI c := arrV_new c 7 (.int 0)
theorem gO_set (c : ClassId) (h i : Nat) : (gO c h i).setSlot i (.ref (h + 1 + i)) = gO c h (i + 1) := by
  unfold gO
  rw [arrV_store]
  refine congrArg (arrV c 5) (funext fun j => ?_)
  by_cases e : j = i
  · subst e
    simp [updV, va_rf]
  · by_cases q : j < i
    · simp [updV, e, q, Nat.lt_succ_of_lt q]
    · simp [updV, e, q, show ¬ j < i + 1 by omega]
section GF
variable {T : State} {c comp : ClassId}
theorem gF_facts : ∀ i : Nat, (gF T c comp i).heap.size = T.heap.size + 1 + i ∧ (gF T c comp i).heap[T.heap.size]? = some (gO c T.heap.size i) ∧ (gF T c comp i).vm = T.vm ∧ (gF T c comp i).slotsUsed = T.slotsUsed + 5 + i * 7
  | 0 => ⟨by simp [gF], by simp [gF], rfl, by simp [gF, gO, arrV]⟩
  | i + 1 => by
    obtain ⟨a, b, d, u⟩ := gF_facts i
    have hlt : T.heap.size < (gF T c comp i).heap.size := by omega
    have hb' : ((gF T c comp i).pushCell (gI comp)).heap[T.heap.size]? = some (gO c T.heap.size i) := by rw [State.heap_pushCell_of_lt (h := hlt)]; exact b
    refine ⟨?_, State.heap_setCell_self hb', by simp [gF, d], ?_⟩
    · simp [gF, State.setCell, a]; omega
    · have e1 : (gI comp).slots.size = 7 := arrV_size _ _ _
      simp [gF, u, e1]; omega
theorem gF_top {f : JFrame} : ∀ i : Nat, gF (T.setTop f) c comp i = (gF T c comp i).setTop f
  | 0 => rfl
  | i + 1 => by simp only [gF, gF_top i, State.heap_setTop, State.pushCell_setTop, State.setCell_setTop]
theorem gF_old {a : Addr} (ha : a < T.heap.size) : ∀ i : Nat, (gF T c comp i).heap[a]? = T.heap[a]?
  | 0 => State.heap_pushCell_of_lt _ _ ha
  | i + 1 => by
    have f1 := (gF_facts (T := T) (c := c) (comp := comp) i).1
    have ha' : a < T.heap.size := ha
    have hlt : a < (gF T c comp i).heap.size := Nat.lt_of_lt_of_le ha' (by rw [f1]; omega)
    show (((gF T c comp i).pushCell (gI comp)).setCell T.heap.size _).heap[a]? = _
    rw [State.heap_setCell_other (Nat.ne_of_gt ha), State.heap_pushCell_of_lt (h := hlt)]
    exact gF_old ha i
theorem gF_row : ∀ i j : Nat, j < i → (gF T c comp i).heap[T.heap.size + 1 + j]? = some (gI comp)
  | 0, _, h => absurd h (Nat.not_lt_zero _)
  | i + 1, j, h => by
    have f1 := (gF_facts (T := T) (c := c) (comp := comp) i).1
    show (((gF T c comp i).pushCell (gI comp)).setCell T.heap.size _).heap[T.heap.size + 1 + j]? = _
    rw [State.heap_setCell_other (show T.heap.size ≠ T.heap.size + 1 + j by omega)]
    rcases Nat.lt_or_ge j i with hj | hj
    · have hlt : T.heap.size + 1 + j < (gF T c comp i).heap.size := by rw [f1]; omega
      rw [State.heap_pushCell_of_lt (h := hlt)]
      exact gF_row i j hj
    · have e : j = i := by omega
      subst e
      rw [← f1]
      exact State.heap_pushCell_size _ _
end GF
section GW
variable {E : CtlPost} {e : Env} {d : Bool} {acts : List Action} {s : State}
theorem g_new {c comp : ClassId} {k : Class} {type : FieldType} {len : Nat} {v : Value} (hk : s.vm.classes[c]? = some k) (hkind : k.kind = .array comp type) (hl : ¬ len > e.platform.arrayLengthLimit) (hh : ¬ len * componentBytes type > e.platform.maxHeapBytes) (hf : fits type v = true) (hd : v.isDefault = true) {Q : Addr → Pre} (h1 : s.heap.size < e.platform.maxCells) (h2 : s.slotsUsed + len ≤ e.platform.maxSlots)
    (hq : Q s.heap.size d acts (s.pushCell { cls := c, slots := Array.replicate len v, vm := .none })) : Sem.wp (Jvm.newArray c len v) Q E e d acts s := by
  have hfits : ∀ i w, (Array.replicate len v)[i]? = some w → s.fitsSlot c .none i w = true := by
    intro i w hw
    simp only [Array.getElem?_replicate] at hw
    split at hw
    · cases hw; simp [State.fitsSlot, State.slotType?, hk, hkind, hf]
    · cases hw
  have hda : allocActs (Array.replicate len v) s.heap.size acts = acts := by
    have hall : ((Array.replicate len v).all (·.isDefault)) = true := by
      rw [Array.all_replicate]; split <;> simp [hd]
    unfold allocActs; rw [if_pos hall]
  simp only [Jvm.newArray, Jvm.arrayFits, wp_bind', W.ask, W.ite, hl, if_false, wp_pure', W.theClass, hk, hkind, hh, W.alloc, W.stop, Option.some.injEq, exists_eq_left', Array.size_replicate, hda]
  rw [if_neg (by omega)]
  exact ⟨h1, h2, hfits, hq⟩
end GW
section GX
variable {p : Program} {l : Launch} {e : Env} {R : Room} {s : State} {m : MethodId} {args : Array Value} {below : List Frame} {meth : Method} {c : Code} {T : State} {locs : List Loc} {cells slots : Nat}
theorem g_filled (X : Stand p l e R s m args below meth c T locs cells slots) (cA comp : ClassId) : ∀ i : Nat, Stand p l e R s m args below meth c (gF T cA comp i) (locs ++ (List.range i).map fun j => ⟨T.heap.size, j⟩) (cells + 1 + i) (slots + 5 + i * 7)
  | 0 => by
    have h := X.pushed (gO cA T.heap.size 0)
    rw [show (gO cA T.heap.size 0).slots.size = 5 from arrV_size _ _ _] at h
    simpa [gF] using h
  | i + 1 => by
    have Xi := g_filled X cA comp i
    obtain ⟨f1, f2, f3, f4⟩ := gF_facts (T := T) (c := cA) (comp := comp) i
    have hlt0 : T.heap.size < (gF T cA comp i).heap.size := by rw [f1]; omega
    have hcell : ((gF T cA comp i).pushCell (gI comp)).heap[T.heap.size]? = some (gO cA T.heap.size i) := by rw [State.heap_pushCell_of_lt (h := hlt0)]; exact f2
    have h := (Xi.pushed (gI comp)).stored hcell i (.ref (T.heap.size + 1 + i))
    rw [show (gI comp).slots.size = 7 from arrV_size _ _ _, gO_set] at h
    have e2 : (locs ++ (List.range (i + 1)).map fun j => (⟨T.heap.size, j⟩ : Loc)) = (locs ++ (List.range i).map fun j => (⟨T.heap.size, j⟩ : Loc)) ++ [⟨T.heap.size, i⟩] := by simp [List.range_succ, List.append_assoc]
    have e3 : slots + 5 + (i + 1) * 7 = slots + 5 + i * 7 + 7 := by omega
    rw [e2, e3]
    exact h
end GX
section GY
variable {E : CtlPost} {e : Env} {d : Bool} {acts : List Action} {s : State}
theorem g_row {comp cc : ClassId} {kc : Class} (hkc : s.vm.classes[comp]? = some kc) (hkindc : kc.kind = .array cc .int) (hl : ¬ (7 : Nat) > e.platform.arrayLengthLimit) (hh : ¬ 7 * componentBytes .int > e.platform.maxHeapBytes) (h1 : s.heap.size < e.platform.maxCells) (h2 : s.slotsUsed + 7 ≤ e.platform.maxSlots) {Q : Addr → Pre} (hq : Q s.heap.size d acts (s.pushCell (gI comp))) : Sem.wp (multianewarray.make comp [I 7]) Q E e d acts s := by
  rw [multianewarray.make]
  have h0 : ¬ (I 7 < 0) := by decide
  simp only [wp_bind', W.ite, h0, if_false, wp_pure', W.theClass, hkc, hkindc, Option.some.injEq, exists_eq_left']
  have h7 : (I 7).toNatClampNeg = 7 := by decide
  rw [h7]
  refine g_new hkc hkindc hl hh rfl rfl h1 h2 ?_
  rw [show ({ cls := comp, slots := Array.replicate 7 (defaultValue .int), vm := .none } : Cell) = gI comp from gI_new comp]
  exact hq
theorem g_ref {v : Value} (hv : v = .null ∨ ∃ a, v = .ref a) : fits (.array .int) v = true := by
  rcases hv with rfl | ⟨a, rfl⟩ <;> rfl
theorem g_all {c comp cc : ClassId} {k kc : Class} (hk : s.vm.classes[c]? = some k) (hkind : k.kind = .array comp (.array .int)) (hkc : s.vm.classes[comp]? = some kc) (hkindc : kc.kind = .array cc .int)
    (hl : ¬ (7 : Nat) > e.platform.arrayLengthLimit) (hh : ¬ 7 * 4 > e.platform.maxHeapBytes) (hc : s.heap.size + 6 ≤ e.platform.maxCells) (hs : s.slotsUsed + 40 ≤ e.platform.maxSlots)
    {Q : Addr → Pre} (hq : ∀ d' acts', Q s.heap.size d' acts' (gF s c comp 5)) : Sem.wp (multianewarray.make c [I 5, I 7]) Q E e d acts s := by
  rw [multianewarray.make]
  have h0 : ¬ (I 5 < 0) := by decide
  have h5 : (I 5).toNatClampNeg = 5 := by decide
  have hne : ((I 5 == 0) = true) = False := by simp; decide
  simp only [wp_bind', W.ite, h0, if_false, wp_pure', W.theClass, hk, hkind, Option.some.injEq, exists_eq_left']
  rw [h5]
  refine g_new hk hkind (by omega) (by show ¬ 5 * 4 > _; omega) rfl rfl (by omega) (by omega) ?_
  rw [gO_new c s.heap.size]
  simp only [hne, if_false]
  rw [wp_bind', Std.Legacy.Range.forIn_eq_forIn_range']
  show Sem.wp (forIn (List.range' 0 5 1) PUnit.unit _) _ E e d acts _
  refine wp_forIn_inv (fun rest s' => ∃ i, i ≤ 5 ∧ rest = List.range' i (5 - i) ∧ s' = gF s c comp i) _ _ ⟨0, Nat.zero_le _, rfl, rfl⟩ ?_ ?_
  · rintro x rest s' d' acts' Q' ⟨i, hi, hl', rfl⟩ hnext
    have hlt : i < 5 := by
      rcases Nat.lt_or_ge i 5 with h | h
      · exact h
      · rw [show 5 - i = 0 from by omega] at hl'; simp at hl'
    obtain ⟨rfl, hrest⟩ : x = i ∧ rest = List.range' (i + 1) (5 - (i + 1)) := by
      rw [show 5 - i = (5 - (i + 1)) + 1 from by omega, List.range'_succ] at hl'
      exact ⟨(List.cons.inj hl').1, (List.cons.inj hl').2⟩
    obtain ⟨f1, f2, f3, f4⟩ := gF_facts (T := s) (c := c) (comp := comp) x
    simp only [wp_bind']
    refine g_row (by rw [f3]; exact hkc) hkindc hl hh (by rw [f1]; omega) (by rw [f4]; omega) ?_
    have hlt0 : s.heap.size < (gF s c comp x).heap.size := by rw [f1]; omega
    simp only [wp_bind', W.writeLoc, wp_pure']
    refine ⟨gO c s.heap.size x, by rw [State.heap_pushCell_of_lt (h := hlt0)]; exact f2, by simp [gO, arrV], by rw [show (gO c s.heap.size x).slots.size = 5 from arrV_size _ _ _]; exact hlt, ?_, hnext _ _ _ ⟨x + 1, hlt, hrest, ?_⟩⟩
    · show State.fitsSlot _ c .none _ _ = true
      simp [State.fitsSlot, State.slotType?, f3, hk, hkind, g_ref (Or.inr ⟨_, rfl⟩)]
    · rw [f1, gO_set]; rfl
  · rintro s' d' acts' ⟨i, hi, hl', rfl⟩
    have hiN : i = 5 := by
      rcases Nat.lt_or_ge i 5 with h | h
      · rw [show 5 - i = (5 - (i + 1)) + 1 from by omega, List.range'_succ] at hl'; cases hl'
      · omega
    subst hiN
    simp only [wp_pure']
    exact hq _ _
end GY
section GZ
variable {p : Program} {l : Launch} {e : Env} {R : Room} {s : State} {m : MethodId} {args : Array Value} {below : List Frame} {meth : Method} {c : Code} {H : Heap} {locs : List Loc} {cells slots : Nat} {Q : State → Prop}
variable {cc : ByteArray} {pc : Nat} {ls : Array Slot} {rest : List Value} {D : va_G} {cl : List vw_C} {A : Nat → Prop} {ws : va_W} {H0 : Heap} {cX cY : ClassId}
theorem va_gr (hexec : p.tables.exec = Jvm.exec) (hb : c.code = cc) {own : String} {index : Nat} (hown : s.vm.findClass own = some m.cls) (hclink : (Cond.classLink own index "[[I").before args s = true) (hover : va_Nw wMul s) (harr : (Cond.arrayClass .int).before args s = true) (hcX : s.vm.findClass "[[I" = some cX) (hcY : s.vm.findClass "[I" = some cY)
    (hP : va_P D cl ws H) (hD : va_D A ws) (hS : va_S A H0 H locs) (hA : ∀ q, H0.size ≤ q → A q) (hcells : cells + 6 ≤ R.cells) (hslots : slots + 40 ≤ R.slots) (hdg : decode cc pc = .ok (.multianewarray index 2, 4))
    (kk : ∀ (H1 : Heap) (locs1 : List Loc), (∀ q : Nat, q < H.size → H1[q]? = H[q]?) → H1.size = H.size + 6 → H1[H.size]? = some (gO cX H.size 5) → (∀ j : Nat, j < 5 → H1[H.size + 1 + j]? = some (gI cY)) → va_S A H0 H1 locs1 →
      W p l e R s m args below meth c H1 locs1 (cells + 6) (slots + 40) Q (F0 m (pc + 4) ls (.ref H.size :: rest))) : W p l e R s m args below meth c H locs cells slots Q (F0 m pc ls (.int (I 7) :: .int (I 5) :: rest)) := by
  intro T hT X
  subst hT; subst hb
  have hpl : e.platform.magicAccessors = ({} : Platform).magicAccessors := by rw [X.admits.platform]
  obtain ⟨comp, cA, kA, hcomp, -, hkA, hkindA, hnameA⟩ := arrayOverA_spec (t := .int) hover
  obtain ⟨comp', kC, cq', hcomp', hkC, hkindC⟩ := Cond.arrayClass_spec harr
  have ecomp : comp' = comp := Option.some.inj (hcomp'.symm.trans hcomp)
  subst ecomp
  have e1 : cA = cX := Option.some.inj (hnameA.symm.trans hcX)
  have e2 : comp' = cY := Option.some.inj (hcomp.symm.trans hcY)
  subst e1; subst e2
  obtain ⟨c0, hfc0, hcl⟩ := Cond.classLink_spec hown hclink e.platform hpl
  cases hnameA.symm.trans hfc0
  obtain ⟨hg₁, hwarm₁, hready₁⟩ := State.classEntry (e := e) X.warmed hcl
  generalize T.vm.noted m.cls index (.cls cA) = vm₁ at hg₁ hwarm₁ hready₁
  have hal : s.vm.Alike vm₁ := hwarm₁.alike
  obtain ⟨kA₁, hkA₁, heA⟩ := hal.2.2 _ _ hkA
  obtain ⟨kC₁, hkC₁, heC⟩ := hal.2.2 _ _ hkC
  have hkindA₁ : kA₁.kind = .array comp' (.array .int) := by rw [heA]; exact hkindA
  have hkindC₁ : kC₁.kind = .array cq' .int := by rw [heC]; exact hkindC
  have X₁ := X.noted hwarm₁
  obtain ⟨hr1, hr2⟩ := X.roomAbove hcells hslots
  have hl2 : ¬ (7 : Nat) > e.platform.arrayLengthLimit := by rw [Launch.admits_arrayLengthLimit X.admits]; omega
  have hh2 : ¬ 7 * 4 > e.platform.maxHeapBytes := by rw [Launch.admits_maxHeapBytes X.admits]; omega
  have XF := g_filled X₁ cA comp' 5
  obtain ⟨f1, f2, f3, f4⟩ := gF_facts (T := T.setVm vm₁) (c := cA) (comp := comp') 5
  have hold : ∀ q : Nat, q < T.heap.size → (gF (T.setVm vm₁) cA comp' 5).heap[q]? = T.heap[q]? := fun q hq => gF_old (T := T.setVm vm₁) hq 5
  have hrow : ∀ j : Nat, j < 5 → (gF (T.setVm vm₁) cA comp' 5).heap[T.heap.size + 1 + j]? = some (gI comp') := fun j hj => gF_row (T := T.setVm vm₁) 5 j hj
  have hsz : (gF (T.setVm vm₁) cA comp' 5).heap.size = T.heap.size + 6 := f1
  obtain ⟨t', a1, b1⟩ := kk _ _ hold hsz f2 hrow ⟨Nat.le_trans hS.1 (by rw [hsz]; omega), fun x h1 h2 => (hold x (Nat.lt_of_lt_of_le h1 hS.1)).trans (hS.2.1 x h1 h2), fun q hq => by
    rcases List.mem_append.mp hq with z | z
    · exact hS.2.2 q z
    · obtain ⟨j, -, rfl⟩ := List.mem_map.mp z
      exact hA _ hS.1⟩ (gF (T.setVm vm₁) cA comp' 5) rfl XF
  refine ⟨t', ?_, b1⟩
  jvm_step X.here [hexec, hdg]
  simp only [multianewarray.sem, wp_bind', W.resolveClassAt_links (State.method?_setTop (F0 m pc ls (.int (I 7) :: .int (I 5) :: rest)) X.here.top) hg₁]
  rw [W.popN, if_neg (by decide)]
  refine ⟨_, State.topJava?_setTop' (s := T.setVm vm₁) _ X.here.top, [.int (I 5), .int (I 7)], rest, rfl, rfl, ?_⟩
  simp only [List.mapM_cons, List.mapM_nil, wp_bind', wp_pure']
  refine g_all (k := kA₁) (kc := kC₁) (comp := comp') (cc := cq') hkA₁ hkindA₁ hkC₁ hkindC₁ hl2 hh2 (by show T.heap.size + _ ≤ _; omega) (by show T.slotsUsed + _ ≤ _; omega) (fun d' acts' => ?_)
  have eS : ∀ g g' : JFrame, ((T.setTop g).setVm vm₁).setTop g' = (T.setVm vm₁).setTop g' := fun g g' => by
    show ((T.setVm vm₁).setTop g).setTop _ = _
    rw [State.setTop_setTop]
  rw [eS, gF_top]
  simp only [wp_bind', W.mark, W.pushRef, State.topJava?_setTop' _ XF.here.top, Option.some.injEq, exists_eq_left', State.setTop_setTop, State.heap_setTop]
  intro acts
  simp [jvm, XF.here.top]
  exact a1
end GZ
