/-! what the heap holds of a memory; contracts in the small machine's words -/
theorem inP_mem {p : Nat} {w : Cond} (h : inP p w = true) : w ∈ lw_tbl ∧ goodWord w = true := by
  unfold inP at h
  rw [Bool.and_eq_true, decide_eq_true_eq] at h
  exact ⟨List.mem_of_getElem? h.1, h.2⟩
def gtb : List Cond := lw_tbl.filter goodWord
theorem inP_gtb {p : Nat} {w : Cond} (h : inP p w = true) : w ∈ gtb := List.mem_filter.mpr (inP_mem h)
theorem gtb_good {w : Cond} (h : w ∈ gtb) : goodWord w = true := (List.mem_filter.mp h).2
def wsY (y : Nat) : List Cond := .code (yN y) (yB y) (yM y) (yR y) :: gtb
theorem wsY_gtb {y : Nat} {w : Cond} (h : w ∈ gtb) : w ∈ wsY y := List.mem_cons_of_mem _ h
theorem goodIn_wsY {y : Nat} {ws : List Cond} (h : ∀ w ∈ ws, w ∈ gtb) : GoodIn (wsY y) ws := fun w hw => ⟨wsY_gtb (h w hw), good_of_word (gtb_good (h w hw))⟩
def rmD (d : Nat) : Room := { frames := d, cells := 0, slots := 0, locals := 200 * d }
def po (ad : Nat → Nat) (r : Nat) : Option Nat := if r = 0 then none else some (ad r)
def pv (ad : Nat → Nat) (v : Value) : Value := match v with
  | .ref r => va_rf (po ad r)
  | v => v
theorem pv_ref {ad : Nat → Nat} {r : Nat} (h : r ≠ 0) : pv ad (.ref r) = .ref (ad r) := by
  show va_rf (po ad r) = _
  rw [po, if_neg h]
  rfl
def fv (ad : Nat → Nat) (M : Mm) (a k : Nat) (t : List Nat) : Value := match t with
  | 0 :: _ => .int (M.1 a k)
  | 5 :: _ => .int (M.1 a k)
  | 1 :: _ => .long (M.2.1 a k)
  | 2 :: _ => va_rf (po ad (M.2.2 a k))
  | 3 :: o :: _ => .ref (ad (a + o))
  | 4 :: o :: _ => .ref (ad o)
  | _ => .null
def flds (ad : Nat → Nat) (M : Mm) (a ci : Nat) : List Value := (List.range (cq ci).2.2).map fun k => fv ad M a k ((FT.getD ci []).getD k [])
def ent (ad : Nat → Nat) (cA : Nat → ClassId) (M : Mm) (a : Nat) : va_E :=
  if lay a < 100 then .inr (lay a - 1, flds ad M a (lay a - 1))
  else if lay a = 101 then .inl (cA 1, alen a, .inr (.inl (M.2.1 a)))
  else if lay a = 104 then .inl (cA 4, alen a, .inr (.inr (.inr (.inr fun j => po ad (M.2.2 a j)))))
  else if lay a < 104 then .inl (cA (lay a - 100), alen a, .inl (M.1 a))
  else .inl (cA (lay a - 100), alen a, .inr (.inr (.inr (.inr fun j => some (ad ((cbs a).1 + (cbs a).2 * j))))))
def wsM (ad : Nat → Nat) (cA : Nat → ClassId) (M : Mm) : va_W := dom.map fun a => (ad a, ent ad cA M a)
def tysM (cA : Nat → ClassId) : List (ClassId × FieldType) := [(cA 0, .int), (cA 1, .long), (cA 2, .byte), (cA 3, .boolean), (cA 4, .object RX11), (cA 5, .object RX7), (cA 6, .object RX2), (cA 7, .array .int)]
/-- the cells of a memory, and all that come from sz on -/
def AA (ad : Nat → Nat) (sz : Nat) : Nat → Prop := fun q => (∃ a ∈ dom, q = ad a) ∨ sz ≤ q
def ordF : List (String × String × String × List Int32) := [("java/lang/Enum", "ordinal", "I", (List.range 23).map fun k : Nat => I (k : Int))]
/-- the enum's constants, its array, the switch table: they stay -/
def Sx (ad : Nat → Nat) (A : Nat → Prop) (U : State) (H : Heap) : Prop :=
  va_En RX11 "LBagsRiver$Word;" wordN ordF (fun i => ad (600 + i)) A U H ∧ va_Ef 23 RX11 "packed" "J" (fun i => .long (pkTab i)) (fun i => ad (600 + i)) A U H ∧
  va_Z RX11 "ALL" "[LBagsRiver$Word;" (.ref (ad 651)) A U H ∧ va_T (.object RX11) (ad 651) 23 (fun j => .ref (ad (600 + j))) A U H ∧
  va_Z RX0 "$SwitchMap$BagsRiver$Word" "[I" (.ref (ad 650)) A U H ∧ va_T .int (ad 650) 23 (fun j => .int (I (swTab j))) A U H
theorem va_Ef.moved9 {N : Nat} {o n d : String} {v : Nat → Value} {ad : Nat → Nat} {A : Nat → Prop} {u U : State} {H : Heap} (hvm : u.vm.Alike U.vm) (h : va_Ef N o n d v ad A u H) : va_Ef N o n d v ad A U H := fun i hi => (h i hi).moved hvm
theorem va_Ef.kept9 {N : Nat} {o n d : String} {v : Nat → Value} {ad : Nat → Nat} {A : Nat → Prop} {U : State} {H H1 : Heap} (h : va_Ef N o n d v ad A U H) (hq : ∀ a : Nat, a < H.size → ¬ A a → H1[a]? = H[a]?) : va_Ef N o n d v ad A U H1 := fun i hi => (h i hi).kept hq
theorem va_Ef.narrow9 {N : Nat} {o n d : String} {v : Nat → Value} {ad : Nat → Nat} {A B : Nat → Prop} {U : State} {H : Heap} (h : va_Ef N o n d v ad A U H) (hAB : ∀ q, B q → A q) : va_Ef N o n d v ad B U H := fun i hi => (h i hi).narrow hAB
theorem Sx.moved {ad : Nat → Nat} {A : Nat → Prop} {u U : State} {H : Heap} (hvm : u.vm.Alike U.vm) (h : Sx ad A u H) : Sx ad A U H :=
  ⟨h.1.moved hvm, h.2.1.moved9 hvm, h.2.2.1.moved hvm, h.2.2.2.1.moved hvm, h.2.2.2.2.1.moved hvm, h.2.2.2.2.2.moved hvm⟩
theorem Sx.kept {ad : Nat → Nat} {A : Nat → Prop} {U : State} {H H1 : Heap} (h : Sx ad A U H) (hq : ∀ a : Nat, a < H.size → ¬ A a → H1[a]? = H[a]?) : Sx ad A U H1 :=
  ⟨h.1.kept hq, h.2.1.kept9 hq, h.2.2.1.kept hq, h.2.2.2.1.kept hq, h.2.2.2.2.1.kept hq, h.2.2.2.2.2.kept hq⟩
theorem Sx.narrow {ad : Nat → Nat} {A B : Nat → Prop} {U : State} {H : Heap} (h : Sx ad A U H) (hAB : ∀ q, B q → A q) : Sx ad B U H :=
  ⟨h.1.narrow hAB, h.2.1.narrow9 hAB, h.2.2.1.narrow hAB, h.2.2.2.1.narrow hAB, h.2.2.2.2.1.narrow hAB, h.2.2.2.2.2.narrow hAB⟩
/-- the nest's links -/
def Nx (U : State) : Prop := ∀ q ∈ nestQ, va_Nw (.methodLinkNest (Rn q.1) q.2.1 (yN q.2.2) RX12) U
theorem Nx.same {u U : State} (h : u.vm = U.vm) (hn : Nx u) : Nx U := fun q hq => (hn q hq).same rfl h
theorem Nx.warm {s U : State} (hW : s.WarmedH U.vm) (hn : Nx s) : Nx U := fun q hq => va_Nw.warmM hW (hn q hq)
def PreE (D : va_G) (ad : Nat → Nat) (cA : Nat → ClassId) (sz : Nat) (args : List Value) (M : Mm) : Array Value → State → Prop := va_Pc (args.map (pv ad)) fun U =>
  U.heap.size = sz ∧ va_P D vwCl (wsM ad cA M) U.heap ∧ va_K D vwCl (tysM cA) U ∧ va_D (fun _ => True) (wsM ad cA M) ∧ Sx ad (AA ad sz) U U.heap ∧ Nx U
/-- cells made so far, where the law itself makes them: a ghost that no cell holds -/
def gh (M : Mm) : Nat := M.2.2 900 0
def PostE (D : va_G) (ad : Nat → Nat) (cA : Nat → ClassId) (sz : Nat) (r : Option Value) (M M' : Mm) : Array Value → State → Outcome → State → Prop := fun _ st oc t =>
  (oc = .returned (r.map (pv ad)) ∧ va_P D vwCl (wsM ad cA M') t.heap ∧ gh M' = gh M) ∧ va_F (AA ad sz) st t
/-- method y, at these arguments and this memory, with room for d calls within one another: it returns r, and leaves the memory M' -/
def Ev (d : Nat) : EE := fun y args M r M' => ∀ (l : Launch) (D : va_G) (ad : Nat → Nat) (cA : Nat → ClassId) (sz : Nat), Met l (yN y) (wsY y) (rmD d) (PreE D ad cA sz args M) (PostE D ad cA sz r M M') 0 0 (AA ad sz)
theorem preE_blind {D : va_G} {ad : Nat → Nat} {cA : Nat → ClassId} {sz : Nat} {args : List Value} {M : Mm} : FrameBlind (PreE D ad cA sz args M) := by
  intro a U g mk ⟨h0, h1, h2, h3, h4, h5, h6⟩
  exact ⟨h0, h1, h2, va_K.moved (u := U) (U := U.calling g mk a) (Vm.Alike.refl U.vm) h3, h4, Sx.moved (u := U) (U := U.calling g mk a) (Vm.Alike.refl U.vm) h5, Nx.same (u := U) (U := U.calling g mk a) rfl h6⟩
/-! addresses -/
set_option maxRecDepth 100000 in
theorem lay_dom0 : ∀ a, a < 1024 → lay a ≠ 0 → a ∈ dom := by decide +kernel
theorem lay_big {a : Nat} (h : 1024 ≤ a) : lay a = 0 := by
  unfold lay
  have h1 : Nat.shiftRight layN (Nat.mul 8 a) = 0 := by
    show layN >>> (8 * a) = 0
    rw [Nat.shiftRight_eq_div_pow]
    apply Nat.div_eq_of_lt
    calc layN < 2 ^ 8192 := by decide +kernel
      _ ≤ 2 ^ (8 * a) := Nat.pow_le_pow_right (by decide) (by omega)
  rw [h1]
  rfl
theorem lay_dom {a : Nat} (h : lay a ≠ 0) : a ∈ dom := by
  rcases Nat.lt_or_ge a 1024 with q | q
  · exact lay_dom0 a q h
  · exact absurd (lay_big q) h
theorem dom_lay : ∀ a ∈ dom, lay a ≠ 0 := by decide +kernel
theorem dom_pos : ∀ a ∈ dom, a ≠ 0 := by decide +kernel
theorem dom_nd : dom.Nodup := by decide +kernel
theorem wsM_at {ad : Nat → Nat} {cA : Nat → ClassId} {a : Nat} (h : lay a ≠ 0) : ∃ q : Nat, dom[q]? = some a ∧ ∀ M : Mm, (wsM ad cA M)[q]? = some (ad a, ent ad cA M a) := by
  obtain ⟨q, hq⟩ := List.getElem?_of_mem (lay_dom h)
  refine ⟨q, hq, fun M => ?_⟩
  unfold wsM
  rw [List.getElem?_map, hq]
  rfl
theorem wsM_set {ad : Nat → Nat} {cA : Nat → ClassId} {M M' : Mm} {a q : Nat} {e : va_E} (hq : dom[q]? = some a) (he : e = ent ad cA M' a) (h : ∀ b, b ≠ a → ent ad cA M' b = ent ad cA M b) : (wsM ad cA M).set q (ad a, e) = wsM ad cA M' := by
  subst he
  apply List.ext_getElem?
  intro j
  unfold wsM
  rw [List.getElem?_set]
  by_cases hj : q = j
  · subst hj
    rw [if_pos rfl]
    have hl : q < dom.length := (List.getElem?_eq_some_iff.mp hq).1
    rw [if_pos (by rw [List.length_map]; exact hl), List.getElem?_map, hq]
    rfl
  · rw [if_neg hj, List.getElem?_map, List.getElem?_map]
    cases hb : dom[j]? with
    | none => rfl
    | some b =>
      have hne : b ≠ a := by
        intro e
        subst e
        obtain ⟨l1, e1⟩ := List.getElem?_eq_some_iff.mp hq
        obtain ⟨l2, e2⟩ := List.getElem?_eq_some_iff.mp hb
        exact hj ((List.getElem_inj dom_nd).mp (e1.trans e2.symm))
      show some (ad b, ent ad cA M b) = some (ad b, ent ad cA M' b)
      rw [h b hne]
theorem wsM_D {ad : Nat → Nat} {cA : Nat → ClassId} {M M' : Mm} {A : Nat → Prop} (h : va_D A (wsM ad cA M)) : va_D A (wsM ad cA M') := by
  have tr : ∀ (k : Nat) (q : Nat × va_E), (wsM ad cA M')[k]? = some q → ∃ q', (wsM ad cA M)[k]? = some q' ∧ q'.1 = q.1 := by
    intro k q hq
    unfold wsM at hq ⊢
    rw [List.getElem?_map] at hq ⊢
    cases hb : dom[k]? with
    | none => rw [hb] at hq; cases hq
    | some b =>
      rw [hb] at hq
      cases hq
      exact ⟨_, rfl, rfl⟩
  refine ⟨fun i j p q hi hj hpq => ?_, fun k q hk => ?_⟩
  · obtain ⟨p', hi', ep⟩ := tr i p hi
    obtain ⟨q', hj', eq⟩ := tr j q hj
    exact h.1 i j p' q' hi' hj' (by rw [ep, eq, hpq])
  · obtain ⟨q', hk', e⟩ := tr k q hk
    rw [← e]
    exact h.2 k q' hk'
theorem wsM_DA {ad : Nat → Nat} {cA : Nat → ClassId} {M : Mm} {sz : Nat} (h : va_D (fun _ => True) (wsM ad cA M)) : va_D (AA ad sz) (wsM ad cA M) := by
  refine ⟨h.1, fun k q hk => ?_⟩
  unfold wsM at hk
  rw [List.getElem?_map] at hk
  cases hb : dom[k]? with
  | none => rw [hb] at hk; cases hk
  | some b =>
    rw [hb] at hk
    cases hk
    exact Or.inl ⟨b, List.mem_of_getElem? hb, rfl⟩
/-! what a store leaves as it was -/
theorem up2_ne {α : Type} {f : Nat → Nat → α} {a k b : Nat} {v : α} (h : b ≠ a) : up2 f a k v b = f b := if_neg h
theorem up2_eq {α : Type} {f : Nat → Nat → α} {a k : Nat} {v : α} : up2 f a k v a = upf (f a) k v := if_pos rfl
theorem upr_ne {α : Type} {f : Nat → Nat → α} {a b : Nat} {g : Nat → α} (h : b ≠ a) : upr f a g b = f b := if_neg h
theorem upr_eq {α : Type} {f : Nat → Nat → α} {a : Nat} {g : Nat → α} : upr f a g a = g := if_pos rfl
theorem fv_of {ad : Nat → Nat} {M M' : Mm} {a k : Nat} {t : List Nat} (h1 : M'.1 a k = M.1 a k) (h2 : M'.2.1 a k = M.2.1 a k) (h3 : M'.2.2 a k = M.2.2 a k) : fv ad M' a k t = fv ad M a k t := by
  unfold fv
  rw [h1, h2, h3]
theorem ent_of {ad : Nat → Nat} {cA : Nat → ClassId} {M M' : Mm} {b : Nat} (h1 : M'.1 b = M.1 b) (h2 : M'.2.1 b = M.2.1 b) (h3 : M'.2.2 b = M.2.2 b) : ent ad cA M' b = ent ad cA M b := by
  have hf : ∀ ci, flds ad M' b ci = flds ad M b ci := by
    intro ci
    unfold flds
    apply List.map_congr_left
    intro k _
    exact fv_of (by rw [h1]) (by rw [h2]) (by rw [h3])
  unfold ent
  rw [hf, h1, h2, h3]
