/-! ===== the constructors' machine: new cells ===== -/
theorem va_RA_inj {U : State} {c1 c2 : ClassId} {ty : FieldType} (h1 : va_RA U c1 ty) (h2 : va_RA U c2 ty) : c1 = c2 := by
  cases ty with
  | object C =>
    obtain ⟨-, -, -, -, -, q1⟩ := h1
    obtain ⟨-, -, -, -, -, q2⟩ := h2
    exact Option.some.inj (q1.symm.trans q2)
  | _ => exact Option.some.inj (Eq.trans (Eq.symm h1) h2)
def dfC (t : List Nat) : Value := match t with
  | 0 :: _ => .int 0
  | 5 :: _ => .int 0
  | 1 :: _ => .long 0
  | _ => .null
set_option maxRecDepth 100000 in
theorem dfC_ok : ∀ ci, ci < 12 → ∀ k, k < (cq ci).2.2 → defaultValue (tyq ci k) = dfC ((FT.getD ci []).getD k []) ∧ ((FT.getD ci []).getD k []) ≠ [] ∧ (((FT.getD ci []).getD k []).headD 9 ≤ 5) := by decide +kernel
theorem fvC_zero {ad : Nat → Nat} {M : Mm} {a k : Nat} {t : List Nat} (h : M.1 a k = 0 ∧ M.2.1 a k = 0 ∧ M.2.2 a k = 0) (h5 : t.headD 9 ≤ 5) : fvC ad M a k t = dfC t := by
  unfold fvC
  rw [h.1, h.2.1, h.2.2]
  match t, h5 with
  | [], h5 => exact absurd h5 (by decide)
  | 0 :: _, _ => rfl
  | 1 :: _, _ => rfl
  | 2 :: _, _ => rfl
  | 3 :: _, _ => rfl
  | 4 :: _, _ => rfl
  | 5 :: _, _ => rfl
  | (n + 6) :: _, h5 => exact absurd h5 (by show ¬ (n + 6 ≤ 5); omega)
section CM2
variable {p : Program} {l : Launch} {e : Env} {R : Room} {s : State} {m : MethodId} {args : Array Value} {below : List Frame} {meth : Method} {c : Code} {Q : State → Prop}
variable {D : va_G} {cA : Nat → ClassId} {cc : ByteArray} {nL cn d : Nat} {ini : Bool} {dm0 : List Nat} {ad0 : Nat → Nat}
variable {pc nc ns : Nat} {L S r : List Value} {sup dm : List Nat} {μ : Ki × Kl × Kr}
theorem A0_sz {q sz : Nat} (h : sz ≤ q) : A0 ad0 dm0 sz q := Or.inr h
/-- behind a new cell: the addresses grow by one -/
theorem atC_new {ad : Nat → Nat} {H1 : Heap} {locs : List Loc} {ls : Array Slot} {a q : Nat} {e9 : va_E} {nc' ns' : Nat} (h1 : ∀ b, kp dm0 b → ad b = ad0 b) (h2 : ∀ b ∈ dm0, b ∈ dm) (hl : lok ad ls nL L) (hfr : ¬ kp dm a) (ha0 : lay a ≠ 0) (hL : allV dm L = true) (hr : allV dm r = true) {H : Heap} (hW : CWd D cA ad dm (mC (sup, dm, μ)) (A0 ad0 dm0 s.heap.size) H) (he : e9 = entC ad cA (mC (sup, dm, μ)) a) (hP1 : va_P D vwCl (wsC ad cA dm (mC (sup, dm, μ)) ++ [(q, e9)]) H1) (hD1 : va_D (A0 ad0 dm0 s.heap.size) (wsC ad cA dm (mC (sup, dm, μ)) ++ [(q, e9)])) (hS1 : va_S (A0 ad0 dm0 s.heap.size) s.heap H1 locs)
    (ih : AtC p l e R s m args below meth c Q D cA nL dm0 ad0 pc L (.ref a :: r) (sup, dm ++ [a], μ) nc' ns') : W p l e R s m args below meth c H1 locs nc' ns' Q (F0 m pc ls (.ref q :: r.map (pv ad))) := by
  have hne : ∀ b, kp dm b → upf ad a q b = ad b := fun b hb => by
    have : b ≠ a := fun z => hfr (by rw [← z]; exact hb)
    exact upf_ne this
  have hd : a ∉ dm := fun z => hfr (Or.inl z)
  have hk : ∀ b, kp dm0 b → kp dm b := fun b hb => hb.imp (h2 b) id
  have h9 := ih (upf ad a q) H1 locs ls (fun b hb => (hne b (hk b hb)).trans (h1 b hb)) (fun b hb => List.mem_append_left _ (h2 b hb)) (lok_ad hL hne hl) (hW.new hd ha0 he hP1 hD1) hS1
  have ha : a ≠ 0 := fun z => ha0 (by rw [z]; decide +kernel)
  rw [List.map_cons, pv_ref ha, upf_eq, map_ad hr hne] at h9
  exact h9
theorem k_new (B : BdC p R s m args meth c D cA cc nL cn d ini) {idx ci a : Nat} (hd : decode cc pc = .ok (.new idx, 3)) (w1 : Cond.classLink (Rn cn) idx (cq ci).1 ∈ gtb) (w2 : Cond.instantiable (cq ci).1 (cq ci).2.2 ∈ gtb) (w3 : Cond.initialized (cq ci).1 ∈ gtb) (hci : ci < 12) (hlay : lay a = ci + 1) (hfr : ¬ kp dm a) (hL : allV dm L = true) (hr : allV dm r = true) (hc : nc + 1 ≤ R.cells) (hs : ns + (cq ci).2.2 ≤ R.slots)
    (ih : AtC p l e R s m args below meth c Q D cA nL dm0 ad0 (pc + 3) L (.ref a :: r) (sup, dm ++ [a], μ) (nc + 1) (ns + (cq ci).2.2)) : AtC p l e R s m args below meth c Q D cA nL dm0 ad0 pc L r (a :: sup, dm, μ) nc ns := by
  intro ad H locs ls h1 h2 hl hW hS
  have hz : ∀ k, (mC (sup, dm, μ)).1 a k = 0 ∧ (mC (sup, dm, μ)).2.1 a k = 0 ∧ (mC (sup, dm, μ)).2.2 a k = 0 := fun k => hW.2.2.2.2.2 a (fun z => hfr (Or.inl z)) k
  refine va_new (fs := fC ad (mC (sup, dm, μ)) a ci) (C := (cq ci).1) (T := (cq ci).2.1) (N := (cq ci).2.2) (ci := ci) (Ts := gtb) B.1 B.2.1 B.2.2.2.2.1 (inX_cq hci) (tyq ci) (tyq_ok hci) B.2.2.2.1 (B.2.2.2.2.1 _ w1) (B.2.2.2.2.1 _ w2) (B.2.2.2.2.1 _ w3) B.2.2.2.2.2.1 hW.1 hW.2.1 hS (fun q hq => A0_sz hq) (cl_cq hci) ?_ hc hs hd (fun q H1 hP1 hD1 hS1 => atC_new h1 h2 hl hfr (by omega) hL hr hW (entC_obj hci hlay).symm hP1 hD1 hS1 ih)
  intro j hj
  obtain ⟨g1, g2, g3⟩ := dfC_ok ci hci j hj
  unfold vp_V
  rw [List.getD_eq_getElem?_getD, fC_at hj, g1, ← fvC_zero (ad := ad) (hz j) g3]
  rfl
def tA (ty : ArrayType) : Nat := match ty with
  | .int => 0
  | .long => 1
  | .byte => 2
  | .boolean => 3
  | _ => 99
theorem k_newa (B : BdC p R s m args meth c D cA cc nL cn d ini) {ty : ArrayType} {a : Nat} {n : Int32} (hd : decode cc pc = .ok (.newarray ty, 2)) (w1 : Cond.arrayClass (newarray.typeOf ty) ∈ gtb) (hty : tA ty < 4) (hlay : lay a = 100 + tA ty) (hn : ¬ n < 0) (hN : n.toNatClampNeg = alen a) (hb : alen a ≤ 4095) (hfr : ¬ kp dm a) (hL : allV dm L = true) (hr : allV dm r = true) (hc : nc + 1 ≤ R.cells) (hs : ns + alen a ≤ R.slots)
    (ih : AtC p l e R s m args below meth c Q D cA nL dm0 ad0 (pc + 2) L (.ref a :: r) (sup, dm ++ [a], μ) (nc + 1) (ns + alen a)) : AtC p l e R s m args below meth c Q D cA nL dm0 ad0 pc L (.int n :: r) (a :: sup, dm, μ) nc ns := by
  intro ad H locs ls h1 h2 hl hW hS
  have hz : ∀ k, (mC (sup, dm, μ)).1 a k = 0 ∧ (mC (sup, dm, μ)).2.1 a k = 0 ∧ (mC (sup, dm, μ)).2.2 a k = 0 := fun k => hW.2.2.2.2.2 a (fun z => hfr (Or.inl z)) k
  have hA : ∀ q, s.heap.size ≤ q → A0 ad0 dm0 s.heap.size q := fun q hq => A0_sz hq
  have hb8 : ∀ t, componentBytes t ≤ 8 := fun t => by cases t <;> first | decide | (show 4 ≤ 8; decide)
  have hK := B.2.2.2.2.2.1
  have fin : ∀ (t : Nat) (ft : FieldType) (a0 : vp_A), newarray.typeOf ty = ft → (tysM cA)[t]? = some (cA t, ft) → (∀ cX : ClassId, vp_cell cX a0 = arrV cX (alen a) (fun _ => defaultValue ft)) → (.inl (cA t, a0) : va_E) = entC ad cA (mC (sup, dm, μ)) a → W p l e R s m args below meth c H locs nc ns Q (F0 m pc ls ((Value.int n :: r).map (pv ad))) := by
    intro t ft a0 hft hT ha0 he
    refine va_newa (a0 := a0) (N' := alen a) B.1 B.2.1 (B.2.2.2.2.1 _ w1) hft hK hW.1 hW.2.1 hS hA ha0 hn hN (by have := Nat.mul_le_mul hb (hb8 ft); omega) hc hs hd fun q cX H1 hK1 hP1 hD1 hS1 => ?_
    have hcX : cX = cA t := va_RA_inj (hK1.2 (tysM cA).length (cX, ft) (by rw [List.getElem?_append_right (Nat.le_refl _)]; simp)).2 (hK.2 t _ hT).2
    subst hcX
    exact atC_new h1 h2 hl hfr (by omega) hL hr hW he hP1 hD1 hS1 ih
  have e1 : (mC (sup, dm, μ)).1 a = fun _ => 0 := funext fun k => (hz k).1
  have e2 : (mC (sup, dm, μ)).2.1 a = fun _ => 0 := funext fun k => (hz k).2.1
  cases ty with
  | int => exact fin 0 .int (alen a, .inl fun _ => 0) rfl rfl (fun _ => rfl) (by rw [entC_100 hlay, e1])
  | long => exact fin 1 .long (alen a, .inr (.inl fun _ => 0)) rfl rfl (fun _ => rfl) (by rw [entC_101 hlay, e2])
  | byte => exact fin 2 .byte (alen a, .inl fun _ => 0) rfl rfl (fun _ => rfl) (by rw [entC_102 hlay, e1])
  | boolean => exact fin 3 .boolean (alen a, .inl fun _ => 0) rfl rfl (fun _ => rfl) (by rw [entC_103 hlay, e1])
  | _ => exact absurd hty (by decide)
def tC (t : Nat) : String := if t = 4 then RX11 else if t = 5 then RX7 else RX2
theorem k_newq (B : BdC p R s m args meth c D cA cc nL cn d ini) {idx a t : Nat} {n : Int32} (hd : decode cc pc = .ok (.anewarray idx, 3)) (w1 : Cond.classLink (Rn cn) idx (tC t) ∈ gtb) (ht : 4 ≤ t ∧ t < 7) (hlay : lay a = 100 + t) (hn : ¬ n < 0) (hN : n.toNatClampNeg = alen a) (hb : alen a ≤ 4095) (hfr : ¬ kp dm a) (hL : allV dm L = true) (hr : allV dm r = true) (hc : nc + 1 ≤ R.cells) (hs : ns + alen a ≤ R.slots)
    (ih : AtC p l e R s m args below meth c Q D cA nL dm0 ad0 (pc + 3) L (.ref a :: r) (sup, dm ++ [a], μ) (nc + 1) (ns + alen a)) : AtC p l e R s m args below meth c Q D cA nL dm0 ad0 pc L (.int n :: r) (a :: sup, dm, μ) nc ns := by
  intro ad H locs ls h1 h2 hl hW hS
  have hz : ∀ k, (mC (sup, dm, μ)).2.2 a k = 0 := fun k => (hW.2.2.2.2.2 a (fun z => hfr (Or.inl z)) k).2.2
  have hK := B.2.2.2.2.2.1
  have ho : va_AO (tC t) s := by
    rcases (show t = 4 ∨ t = 5 ∨ t = 6 by omega) with rfl | rfl | rfl
    · exact B.2.2.2.2.2.2.1.1.1
    · exact B.2.2.2.2.2.2.1.1.2.1
    · exact B.2.2.2.2.2.2.1.1.2.2
  have hT : (tysM cA)[t]? = some (cA t, .object (tC t)) := by
    rcases (show t = 4 ∨ t = 5 ∨ t = 6 by omega) with rfl | rfl | rfl <;> rfl
  refine va_newq (N' := alen a) B.1 B.2.1 B.2.2.2.1 (B.2.2.2.2.1 _ w1) ho hK hW.1 hW.2.1 hS (fun q hq => A0_sz hq) hn hN (by omega) hc hs hd fun q cX H1 hK1 hP1 hD1 hS1 => ?_
  have hcX : cX = cA t := va_RA_inj (hK1.2 (tysM cA).length (cX, .object (tC t)) (by rw [List.getElem?_append_right (Nat.le_refl _)]; simp)).2 (hK.2 t _ hT).2
  subst hcX
  refine atC_new h1 h2 hl hfr (by omega) hL hr hW ?_ hP1 hD1 hS1 ih
  rw [entC_q hlay ht.1]
  congr 7
  funext j
  show none = po ad ((mC (sup, dm, μ)).2.2 a j)
  rw [hz j]
  rfl
theorem va_P_mem {cl : List vw_C} {w1 w2 : va_W} {H : Heap} (h : va_P D cl w2 H) (hs : ∀ x ∈ w1, x ∈ w2) : va_P D cl w1 H := by
  intro k q hk
  obtain ⟨j, hj⟩ := List.getElem?_of_mem (hs q (List.mem_of_getElem? hk))
  exact h j q hj
theorem va_D_pre {A : Nat → Prop} {w1 w2 : va_W} (h : va_D A (w1 ++ w2)) : va_D A w1 := by
  have up : ∀ {i : Nat} {x : Nat × va_E}, w1[i]? = some x → (w1 ++ w2)[i]? = some x := fun {i x} hx => by
    rw [List.getElem?_append_left (List.getElem?_eq_some_iff.mp hx).1]
    exact hx
  exact ⟨fun i j p q hp hq e => h.1 i j p q (up hp) (up hq) e, fun k q hk => h.2 k q (up hk)⟩
/-- a cell more, where something is written in it at once -/
theorem CWd.newM {ad : Nat → Nat} {M M' : Mm} {A : Nat → Prop} {H H1 : Heap} {a q : Nat} {e9 : va_E} (h : CWd D cA ad dm M A H) (ha : a ∉ dm) (ha0 : lay a ≠ 0) (hb : ∀ b, b ≠ a → M'.1 b = M.1 b ∧ M'.2.1 b = M.2.1 b ∧ M'.2.2 b = M.2.2 b) (hr : ∀ k, M'.2.2 a k = 0 ∨ M'.2.2 a k ∈ dm) (he : e9 = entC ad cA M' a) (hP1 : va_P D vwCl (wsC ad cA dm M ++ [(q, e9)]) H1) (hD1 : va_D A (wsC ad cA dm M ++ [(q, e9)])) : CWd D cA (upf ad a q) (dm ++ [a]) M' A H1 := by
  obtain ⟨hP, hD, hn, hl, hw⟩ := h
  have hne : ∀ b, b ∈ dm → b ≠ a := fun b hb z => ha (by rw [← z]; exact hb)
  have hr' : ∀ b k, M'.2.2 b k = 0 ∨ M'.2.2 b k ∈ dm := fun b k => by
    by_cases q : b = a
    · subst q; exact hr k
    · rw [(hb b q).2.2]; exact hw.1 b k
  have h1 : ∀ x, x = 0 ∨ x ∈ dm → po (upf ad a q) x = po ad x := fun x hx => po_ad (hx.imp id fun k => upf_ne (hne x k))
  have hE : ∀ b, entC (upf ad a q) cA M' b = entC ad cA M' b := fun b => entC_ad fun k => h1 _ (hr' b k)
  have hws : wsC (upf ad a q) cA (dm ++ [a]) M' = wsC ad cA dm M ++ [(q, e9)] := by
    unfold wsC
    rw [List.map_append]
    congr 1
    · apply List.map_congr_left
      intro b hb'
      rw [hE, upf_ne (hne b hb'), entC_of (hb b (hne b hb')).1 (hb b (hne b hb')).2.1 (hb b (hne b hb')).2.2]
    · show [(upf ad a q a, entC (upf ad a q) cA M' a)] = _
      rw [hE, upf_eq, he]
  refine ⟨by rw [hws]; exact hP1, by rw [hws]; exact hD1, ?_, ?_, ?_, ?_⟩
  · refine List.nodup_append.mpr ⟨hn, by simp, fun x hx y hy => ?_⟩
    rw [List.mem_singleton] at hy
    subst hy
    exact hne x hx
  · intro b hb'
    rcases List.mem_append.mp hb' with z | z
    · exact hl b z
    · rw [List.mem_singleton] at z; subst z; exact ha0
  · exact fun b k => (hr' b k).imp id fun z => List.mem_append_left _ z
  · intro b hb' k
    have q1 : b ∉ dm := fun z => hb' (List.mem_append_left _ z)
    have q2 : b ≠ a := fun z => hb' (List.mem_append_right _ (by rw [z]; exact List.mem_singleton_self _))
    rw [(hb b q2).1, (hb b q2).2.1, (hb b q2).2.2]
    exact hw.2 b q1 k
end CM2
