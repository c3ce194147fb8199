/-! ===== the constructors' machine, an instruction a row ===== -/
/-- links between the nest's classes: the private constructors -/
def nestC : List (Nat × Nat × MethodName) := [(12, 9, yX10_init), (12, 37, yX7_init), (12, 58, yX6_init), (12, 68, yX1_init), (12, 75, yX5_init), (12, 86, yX2_init), (2, 18, yX7_init), (2, 25, yX6_init), (4, 17, yX7_init)]
def wMul : Cond := .arrayOver (.array .int)
/-- words of another kind, that the constructors need -/
def WX (U : State) : Prop := (va_AO RX11 U ∧ va_AO RX7 U ∧ va_AO RX2 U) ∧ va_Nw wMul U ∧ ∀ q ∈ nestC, va_Nw (.methodLinkNest (Rn q.1) q.2.1 q.2.2 RX12) U
theorem wMul_moved {u U : State} (hvm : u.vm.Alike U.vm) (h : va_Nw wMul u) : va_Nw wMul U := by
  obtain ⟨comp, c, k, h1, h2, h3, h4, h5⟩ := arrayOverA_spec (t := .int) h
  obtain ⟨k', hk', he⟩ := hvm.2.2 _ _ h3
  have hkind : k'.kind = .array comp (.array .int) := by rw [he]; exact h4
  have f1 : U.vm.findClass (FieldType.array .int).toString = some comp := by rw [hvm.findClass]; exact h1
  have f2 : U.vm.findClass ("[" ++ (FieldType.array .int).toString) = some c := by rw [hvm.findClass]; exact h5
  unfold va_Nw wMul Cond.before
  simp only [Cond.holds, Cond.value, f1, Option.bind_some, beq_iff_eq]
  rw [Option.bind_eq_some_iff]
  exact ⟨c, (hvm.findIdx?_eq _ (fun _ => rfl)).trans h2, by simp [hk', hkind, f2]⟩
theorem WX.warm {s U : State} (hW : s.WarmedH U.vm) (h : WX s) : WX U := ⟨⟨h.1.1.moved hW.alike, h.1.2.1.moved hW.alike, h.1.2.2.moved hW.alike⟩, wMul_moved hW.alike h.2.1, fun q hq => va_Nw.warmM hW (h.2.2 q hq)⟩
theorem WX.same {u U : State} (h : u.vm = U.vm) (hn : WX u) : WX U := by
  have hal : u.vm.Alike U.vm := by rw [h]; exact Vm.Alike.refl U.vm
  exact ⟨⟨hn.1.1.moved hal, hn.1.2.1.moved hal, hn.1.2.2.moved hal⟩, wMul_moved hal hn.2.1, fun q hq => (hn.2.2 q hq).same rfl h⟩
section CM1
variable {p : Program} {l : Launch} {e : Env} {R : Room} {s : State} {m : MethodId} {args : Array Value} {below : List Frame} {meth : Method} {c : Code} {Q : State → Prop}
variable {D : va_G} {cA : Nat → ClassId} {cc : ByteArray} {nL cn d : Nat} {ini : Bool} {dm0 : List Nat} {ad0 : Nat → Nat}
def BdC (p : Program) (R : Room) (s : State) (m : MethodId) (args : Array Value) (meth : Method) (c : Code) (D : va_G) (cA : Nat → ClassId) (cc : ByteArray) (nL cn d : Nat) (ini : Bool) : Prop :=
  p.tables.exec = Jvm.exec ∧ c.code = cc ∧ c.maxLocals = nL ∧ s.vm.findClass (Rn cn) = some m.cls ∧ (∀ w ∈ gtb, w.before args s = true) ∧ va_K D vwCl (tysM cA) s ∧ WX s ∧ (d + 1 ≤ R.frames ∧ 200 * (d + 1) ≤ R.locals) ∧ (ini = true → meth.name = "<init>")
def AtC (p : Program) (l : Launch) (e : Env) (R : Room) (s : State) (m : MethodId) (args : Array Value) (below : List Frame) (meth : Method) (c : Code) (Q : State → Prop) (D : va_G) (cA : Nat → ClassId) (nL : Nat) (dm0 : List Nat) (ad0 : Nat → Nat) (pc : Nat) (L S : List Value) (σ : Kst) (nc ns : Nat) : Prop :=
  ∀ (ad : Nat → Nat) (H : Heap) (locs : List Loc) (ls : Array Slot), (∀ a, kp dm0 a → ad a = ad0 a) → (∀ a ∈ dm0, a ∈ σ.2.1) → lok ad ls nL L → CWd D cA ad σ.2.1 (mC σ) (A0 ad0 dm0 s.heap.size) H → va_S (A0 ad0 dm0 s.heap.size) s.heap H locs → W p l e R s m args below meth c H locs nc ns Q (F0 m pc ls (S.map (pv ad)))
variable {pc nc ns : Nat} {L S r : List Value} {σ σ' : Kst}
theorem k_iconst (B : BdC p R s m args meth c D cA cc nL cn d ini) {k : Int} (hd : decode cc pc = .ok (.iconst k, 1)) (ih : AtC p l e R s m args below meth c Q D cA nL dm0 ad0 (pc + 1) L (.int (I k) :: S) σ nc ns) : AtC p l e R s m args below meth c Q D cA nL dm0 ad0 pc L S σ nc ns :=
  fun ad H locs ls h1 h2 hl hW hS => lv_iconst B.1 B.2.1 hd rfl (ih ad H locs ls h1 h2 hl hW hS)
theorem k_bipush (B : BdC p R s m args meth c D cA cc nL cn d ini) {k : Int} (hk : (Int8.ofInt k).toInt32 = I k) (hd : decode cc pc = .ok (.bipush k, 2)) (ih : AtC p l e R s m args below meth c Q D cA nL dm0 ad0 (pc + 2) L (.int (I k) :: S) σ nc ns) : AtC p l e R s m args below meth c Q D cA nL dm0 ad0 pc L S σ nc ns :=
  fun ad H locs ls h1 h2 hl hW hS => lv_bipush B.1 B.2.1 hd hk (ih ad H locs ls h1 h2 hl hW hS)
theorem k_sipush (B : BdC p R s m args meth c D cA cc nL cn d ini) {k : Int} (hk : (Int16.ofInt k).toInt32 = I k) (hd : decode cc pc = .ok (.sipush k, 3)) (ih : AtC p l e R s m args below meth c Q D cA nL dm0 ad0 (pc + 3) L (.int (I k) :: S) σ nc ns) : AtC p l e R s m args below meth c Q D cA nL dm0 ad0 pc L S σ nc ns :=
  fun ad H locs ls h1 h2 hl hW hS => lv_sipush B.1 B.2.1 hd hk (ih ad H locs ls h1 h2 hl hW hS)
theorem k_ldc2 (B : BdC p R s m args meth c D cA cc nL cn d ini) {idx : Nat} {v : Int64} (hw : Cond.constantLong (Rn cn) idx v ∈ gtb) (hd : decode cc pc = .ok (.ldc2_w idx, 3)) (ih : AtC p l e R s m args below meth c Q D cA nL dm0 ad0 (pc + 3) L (.long v :: S) σ nc ns) : AtC p l e R s m args below meth c Q D cA nL dm0 ad0 pc L S σ nc ns :=
  fun ad H locs ls h1 h2 hl hW hS => lv_ldc2 B.1 B.2.1 B.2.2.2.1 (B.2.2.2.2.1 _ hw) hd (ih ad H locs ls h1 h2 hl hW hS)
theorem k_iloadn (B : BdC p R s m args meth c D cA cc nL cn d ini) {k : Fin 4} {x : Int32} (hx : L[k.val]? = some (.int x)) (hd : decode cc pc = .ok (.iload_n k, 1)) (ih : AtC p l e R s m args below meth c Q D cA nL dm0 ad0 (pc + 1) L (.int x :: S) σ nc ns) : AtC p l e R s m args below meth c Q D cA nL dm0 ad0 pc L S σ nc ns :=
  fun ad H locs ls h1 h2 hl hW hS => lv_iload_n B.1 B.2.1 hd rfl (hl.2.2.2 _ _ hx rfl) (ih ad H locs ls h1 h2 hl hW hS)
theorem k_aloadn (B : BdC p R s m args meth c D cA cc nL cn d ini) {k : Fin 4} {x : Nat} (hx : L[k.val]? = some (.ref x)) (hx0 : x ≠ 0) (hd : decode cc pc = .ok (.aload_n k, 1)) (ih : AtC p l e R s m args below meth c Q D cA nL dm0 ad0 (pc + 1) L (.ref x :: S) σ nc ns) : AtC p l e R s m args below meth c Q D cA nL dm0 ad0 pc L S σ nc ns := by
  intro ad H locs ls h1 h2 hl hW hS
  have h3 := ih ad H locs ls h1 h2 hl hW hS
  have h4 := hl.2.2.2 _ _ hx rfl
  rw [List.map_cons, pv_ref hx0] at h3
  rw [pv_ref hx0] at h4
  exact lv_aload_n B.1 B.2.1 hd rfl h4 h3
theorem k_istoren (B : BdC p R s m args meth c D cA cc nL cn d ini) {k : Fin 4} {x : Int32} (hk : k.val < nL) (hd : decode cc pc = .ok (.istore_n k, 1)) (ih : AtC p l e R s m args below meth c Q D cA nL dm0 ad0 (pc + 1) (stv L k.val (.int x)) r σ nc ns) : AtC p l e R s m args below meth c Q D cA nL dm0 ad0 pc L (.int x :: r) σ nc ns := by
  intro ad H locs ls h1 h2 hl hW hS
  exact lv_istore_n B.1 B.2.1 hd rfl hl.has hk rfl fun ls2 hl2 => ih ad H locs ls2 h1 h2 (hl.st1 hl2) hW hS
theorem k_istore (B : BdC p R s m args meth c D cA cc nL cn d ini) {k : Nat} {x : Int32} (hk : k < nL) (hd : decode cc pc = .ok (.istore k, 2)) (ih : AtC p l e R s m args below meth c Q D cA nL dm0 ad0 (pc + 2) (stv L k (.int x)) r σ nc ns) : AtC p l e R s m args below meth c Q D cA nL dm0 ad0 pc L (.int x :: r) σ nc ns := by
  intro ad H locs ls h1 h2 hl hW hS
  exact lv_istore B.1 B.2.1 hd hl.has hk rfl fun ls2 hl2 => ih ad H locs ls2 h1 h2 (hl.st1 hl2) hW hS
theorem k_astoren (B : BdC p R s m args meth c D cA cc nL cn d ini) {k : Fin 4} {x : Nat} (hx0 : x ≠ 0) (hk : k.val < nL) (hd : decode cc pc = .ok (.astore_n k, 1)) (ih : AtC p l e R s m args below meth c Q D cA nL dm0 ad0 (pc + 1) (stv L k.val (.ref x)) r σ nc ns) : AtC p l e R s m args below meth c Q D cA nL dm0 ad0 pc L (.ref x :: r) σ nc ns := by
  intro ad H locs ls h1 h2 hl hW hS
  have hp := pv_ref (ad := ad) hx0
  rw [List.map_cons, hp]
  exact lv_astore_n B.1 B.2.1 hd rfl hl.has hk rfl fun ls2 hl2 => ih ad H locs ls2 h1 h2 (hl.st1 (by rw [hp]; exact hl2)) hW hS
theorem k_iinc (B : BdC p R s m args meth c D cA cc nL cn d ini) {k : Nat} {i : Int} {x : Int32} (hx : L[k]? = some (.int x)) (hk : k < nL) (hd : decode cc pc = .ok (.iinc k i, 3)) (ih : AtC p l e R s m args below meth c Q D cA nL dm0 ad0 (pc + 3) (stv L k (.int (x + I i))) S σ nc ns) : AtC p l e R s m args below meth c Q D cA nL dm0 ad0 pc L S σ nc ns := by
  intro ad H locs ls h1 h2 hl hW hS
  obtain ⟨j, hj⟩ := List.getElem?_of_mem (lpl_mem (ad := ad).mpr ⟨_, hx, rfl, rfl⟩)
  exact lv_iinc B.1 B.2.1 hd hl.has hj rfl hk rfl fun ls2 hl2 => ih ad H locs ls2 h1 h2 (hl.st1 hl2) hW hS
theorem k_dup (B : BdC p R s m args meth c D cA cc nL cn d ini) {v : Value} (hv : v.category = 1) (hd : decode cc pc = .ok (.dup, 1)) (ih : AtC p l e R s m args below meth c Q D cA nL dm0 ad0 (pc + 1) L (v :: v :: r) σ nc ns) : AtC p l e R s m args below meth c Q D cA nL dm0 ad0 pc L (v :: r) σ nc ns :=
  fun ad H locs ls h1 h2 hl hW hS => lv_dup B.1 B.2.1 hd (by rw [pv_cat]; exact hv) (ih ad H locs ls h1 h2 hl hW hS)
theorem k_goto (B : BdC p R s m args meth c D cA cc nL cn d ini) {t : Nat} {off : Int} (hd : decode cc pc = .ok (.goto off, 3)) (ht : (pc : Int) + off = (t : Int)) (ih : AtC p l e R s m args below meth c Q D cA nL dm0 ad0 t L S σ nc ns) : AtC p l e R s m args below meth c Q D cA nL dm0 ad0 pc L S σ nc ns :=
  fun ad H locs ls h1 h2 hl hW hS => lv_goto B.1 B.2.1 hd ht (ih ad H locs ls h1 h2 hl hW hS)
theorem k_icmpge (B : BdC p R s m args meth c D cA cc nL cn d ini) {t : Nat} {off : Int} {x y : Int32} (hd : decode cc pc = .ok (.if_icmp .ge off, 3)) (ht : (pc : Int) + off = (t : Int)) (ij : y ≤ x → AtC p l e R s m args below meth c Q D cA nL dm0 ad0 t L r σ nc ns) (ih : ¬ y ≤ x → AtC p l e R s m args below meth c Q D cA nL dm0 ad0 (pc + 3) L r σ nc ns) : AtC p l e R s m args below meth c Q D cA nL dm0 ad0 pc L (.int y :: .int x :: r) σ nc ns :=
  fun ad H locs ls h1 h2 hl hW hS => lv_icmp_ge B.1 B.2.1 hd ht (fun q => ij q ad H locs ls h1 h2 hl hW hS) (fun q => ih q ad H locs ls h1 h2 hl hW hS)
theorem k_objInit (B : BdC p R s m args meth c D cA cc nL cn d ini) {idx a : Nat} (w1 : Cond.methodLink (Rn cn) idx Lib.objectInit ∈ gtb) (w2 : Cond.instanceMethod Lib.objectInit ∈ gtb) (w3 : Cond.code Lib.objectInit ⟨#[0xb1]⟩ 1 none ∈ gtb) (ha0 : a ≠ 0) (hr : r.length ≤ 4) (hd : decode cc pc = .ok (.invokespecial idx, 3)) (ih : AtC p l e R s m args below meth c Q D cA nL dm0 ad0 (pc + 3) L r σ nc ns) : AtC p l e R s m args below meth c Q D cA nL dm0 ad0 pc L (.ref a :: r) σ nc ns := by
  intro ad H locs ls h1 h2 hl hW hS
  have h9 := rest_ok (ad := ad) hr
  have h8 := B.2.2.2.2.2.2.2.1
  rw [List.map_cons, pv_ref ha0]
  exact W.objInit B.1 B.2.1 B.2.2.2.1 (B.2.2.2.2.1 _ w1) (B.2.2.2.2.1 _ w2) (B.2.2.2.2.1 _ w3) rfl (hl.1.trans B.2.2.1.symm) rfl hd (by omega) (by show 2 * 0 + _ + 12 ≤ R.locals; omega) (ih ad H locs ls h1 h2 hl hW hS)
theorem k_mmax (B : BdC p R s m args meth c D cA cc nL cn d ini) {idx : Nat} {x y : Int32} (hd : decode cc pc = .ok (.invokestatic idx, 3)) (w1 : Cond.methodLink (Rn cn) idx Lib.Math.max.name ∈ gtb) (w2 : Cond.static Lib.Math.max.name ∈ gtb) (w3 : Cond.initialized "java/lang/Math" ∈ gtb) (w4 : Cond.code Lib.Math.max.name Lib.Math.max.code 2 (some .int) ∈ gtb) (hr : r.length ≤ 4) (hc : nc ≤ R.cells) (hs : ns ≤ R.slots) (ih : AtC p l e R s m args below meth c Q D cA nL dm0 ad0 (pc + 3) L (.int (if x < y then y else x) :: r) σ nc ns) : AtC p l e R s m args below meth c Q D cA nL dm0 ad0 pc L (.int y :: .int x :: r) σ nc ns := by
  intro ad H locs ls h1 h2 hl hW hS
  have hr9 := B.2.2.2.2.2.2.2.1
  have hro := rest_ok (ad := ad) hr
  exact va_mmax B.1 B.2.1 (B.2.2.1.trans hl.1.symm) B.2.2.2.1 (B.2.2.2.2.1 _ w1) (B.2.2.2.2.1 _ w2) (B.2.2.2.2.1 _ w3) (B.2.2.2.2.1 _ w4) (by omega) (by omega) hc hs hd (ih ad H locs ls h1 h2 hl hW hS)
theorem k_get (B : BdC p R s m args meth c D cA cc nL cn d ini) {idx ci k a : Nat} {v : Value} (hd : decode cc pc = .ok (.getfield idx, 3)) (hlk : Cond.fieldLink (Rn cn) idx (cq ci).1 ((cq ci).2.1 k).2.1 ((cq ci).2.1 k).2.2.1 ∈ gtb) (hk : k < (cq ci).2.2) (hci : ci < 12) (hown : ((cq ci).2.1 k).1 = (cq ci).1) (hlay : lay a = ci + 1) (ha : a ∈ σ.2.1) (hv : ∀ ad : Nat → Nat, pv ad v = fvC ad (mC σ) a k ((FT.getD ci []).getD k []))
    (ih : AtC p l e R s m args below meth c Q D cA nL dm0 ad0 (pc + 3) L (v :: r) σ nc ns) : AtC p l e R s m args below meth c Q D cA nL dm0 ad0 pc L (.ref a :: r) σ nc ns := by
  intro ad H locs ls h1 h2 hl hW hS
  obtain ⟨q, hq, hw⟩ := wsC_at (ad := ad) (cA := cA) ha
  have h3 := ih ad H locs ls h1 h2 hl hW hS
  rw [List.map_cons, hv] at h3
  rw [List.map_cons, pv_ref (CWd_pos hW ha)]
  refine va_get (C := (cq ci).1) (T := (cq ci).2.1) (N := (cq ci).2.2) (Ts := gtb) B.1 B.2.1 B.2.2.2.2.1 (inX_cq hci) B.2.2.2.1 B.2.2.2.2.2.1 hW.1 q (by rw [hw, entC_obj hci hlay]) (cl_cq hci) k hk (B.2.2.2.2.1 _ hlk) ?_ ?_ hd h3
  · intro x hx
    rw [hown] at hx
    exact hx
  · rw [fC_at hk]
theorem k_put (B : BdC p R s m args meth c D cA cc nL cn d ini) {idx ci k a : Nat} {v : Value} (hd : decode cc pc = .ok (.putfield idx, 3)) (hlk : Cond.fieldLink (Rn cn) idx (cq ci).1 ((cq ci).2.1 k).2.1 ((cq ci).2.1 k).2.2.1 ∈ gtb) (hk : k < (cq ci).2.2) (hci : ci < 12) (hown : ((cq ci).2.1 k).1 = (cq ci).1) (hfin : ((cq ci).2.1 k).2.2.2 = false ∨ (((cq ci).2.1 k).2.2.2 = true ∧ ini = true ∧ (cq ci).1 = Rn cn)) (hlay : lay a = ci + 1) (ha : a ∈ σ.2.1)
    (hv : ∀ ad : Nat → Nat, pv ad v = fvC ad (mC σ') a k ((FT.getD ci []).getD k [])) (ho : ∀ (ad : Nat → Nat) j, j ≠ k → fvC ad (mC σ') a j ((FT.getD ci []).getD j []) = fvC ad (mC σ) a j ((FT.getD ci []).getD j [])) (hb : ∀ (ad : Nat → Nat) b, b ≠ a → entC ad cA (mC σ') b = entC ad cA (mC σ) b) (hdm : σ'.2.1 = σ.2.1) (hwf : Wfm σ.2.1 (mC σ) → Wfm σ.2.1 (mC σ')) (hn : ∀ ad, narrow (tyq ci k) (pv ad v) = pv ad v) (hfit : ∀ ad, fits (tyq ci k) (pv ad v) = true)
    (ih : AtC p l e R s m args below meth c Q D cA nL dm0 ad0 (pc + 3) L r σ' nc ns) : AtC p l e R s m args below meth c Q D cA nL dm0 ad0 pc L (v :: .ref a :: r) σ nc ns := by
  intro ad H locs ls h1 h2 hl hW hS
  obtain ⟨q, hq, hw⟩ := wsC_at (ad := ad) (cA := cA) ha
  rw [List.map_cons, List.map_cons, pv_ref (CWd_pos hW ha)]
  have kk : ∀ (H1 : Heap) (locs1 : List Loc), va_P D vwCl ((wsC ad cA σ.2.1 (mC σ)).set q (ad a, .inr (ci, (fC ad (mC σ) a ci).set k (pv ad v)))) H1 → va_D (A0 ad0 dm0 s.heap.size) ((wsC ad cA σ.2.1 (mC σ)).set q (ad a, .inr (ci, (fC ad (mC σ) a ci).set k (pv ad v)))) → va_S (A0 ad0 dm0 s.heap.size) s.heap H1 locs1 → W p l e R s m args below meth c H1 locs1 nc ns Q (F0 m (pc + 3) ls (r.map (pv ad))) := by
    intro H1 locs1 hP1 hD1 hS1
    have := hW.set ha hq (entC_put hci hlay hk (hv ad) (ho ad)) (hb ad) (hwf hW.2.2.2.2) hP1 hD1
    rw [← hdm] at this
    exact ih ad H1 locs1 ls h1 (by rw [hdm]; exact h2) hl this hS1
  rcases hfin with hf | ⟨hf, hini, hcn⟩
  · refine va_put (C := (cq ci).1) (T := (cq ci).2.1) (N := (cq ci).2.2) (Ts := gtb) (ty := tyq ci k) B.1 B.2.1 B.2.2.2.2.1 (inX_cq hci) (tyq ci) (tyq_ok hci) (nmq_ok hci) B.2.2.2.1 B.2.2.2.2.2.1 hW.1 hW.2.1 hS q (by rw [hw, entC_obj hci hlay]) (cl_cq hci) k hk (B.2.2.2.2.1 _ hlk) ?_ hf (tyq_ok hci k hk) (hn ad) (hfit ad) (by rw [fC_len]; exact hk) hd kk
    intro x hx
    rw [hown] at hx
    exact hx
  · refine va_putF (C := (cq ci).1) (T := (cq ci).2.1) (N := (cq ci).2.2) (Ts := gtb) (ty := tyq ci k) B.1 B.2.1 B.2.2.2.2.1 (inX_cq hci) (tyq ci) (tyq_ok hci) (nmq_ok hci) B.2.2.2.1 B.2.2.2.2.2.1 hW.1 hW.2.1 hS q (by rw [hw, entC_obj hci hlay]) (cl_cq hci) k hk (B.2.2.2.2.1 _ hlk) ?_ hf (B.2.2.2.2.2.2.2.2 hini) (hown.trans hcn) (tyq_ok hci k hk) (hn ad) (hfit ad) (by rw [fC_len]; exact hk) hd kk
    intro x hx
    rw [hown] at hx
    exact hx
theorem entC_100 {ad : Nat → Nat} {M : Mm} {a : Nat} (h : lay a = 100) : entC ad cA M a = .inl (cA 0, alen a, .inl (M.1 a)) := by unfold entC; rw [h]; rfl
theorem entC_101 {ad : Nat → Nat} {M : Mm} {a : Nat} (h : lay a = 101) : entC ad cA M a = .inl (cA 1, alen a, .inr (.inl (M.2.1 a))) := by unfold entC; rw [h]; rfl
theorem entC_102 {ad : Nat → Nat} {M : Mm} {a : Nat} (h : lay a = 102) : entC ad cA M a = .inl (cA 2, alen a, .inl (M.1 a)) := by unfold entC; rw [h]; rfl
theorem entC_103 {ad : Nat → Nat} {M : Mm} {a : Nat} (h : lay a = 103) : entC ad cA M a = .inl (cA 3, alen a, .inl (M.1 a)) := by unfold entC; rw [h]; rfl
theorem entC_q {ad : Nat → Nat} {M : Mm} {a t : Nat} (h : lay a = 100 + t) (ht : 4 ≤ t) : entC ad cA M a = .inl (cA t, alen a, .inr (.inr (.inr (.inr fun j => po ad (M.2.2 a j))))) := by
  unfold entC
  rw [h, if_neg (by omega), if_neg (by omega), if_neg (by omega), show 100 + t - 100 = t by omega]
theorem k_iald (B : BdC p R s m args meth c D cA cc nL cn d ini) {a : Nat} {i : Int32} (hd : decode cc pc = .ok (.iaload, 1)) (ha : a ∈ σ.2.1) (hlay : lay a = 100) (hi : inR i (alen a)) (ih : AtC p l e R s m args below meth c Q D cA nL dm0 ad0 (pc + 1) L (.int ((mC σ).1 a i.toNatClampNeg) :: r) σ nc ns) : AtC p l e R s m args below meth c Q D cA nL dm0 ad0 pc L (.int i :: .ref a :: r) σ nc ns := by
  intro ad H locs ls h1 h2 hl hW hS
  obtain ⟨q, hq, hw⟩ := wsC_at (ad := ad) (cA := cA) ha
  rw [List.map_cons, List.map_cons, pv_ref (CWd_pos hW ha)]
  exact va_iald B.1 B.2.1 B.2.2.2.2.2.1 hW.1 q 0 (by rw [hw, entC_100 hlay]) rfl hi hd (ih ad H locs ls h1 h2 hl hW hS)
theorem k_iast (B : BdC p R s m args meth c D cA cc nL cn d ini) {a : Nat} {i v : Int32} (hd : decode cc pc = .ok (.iastore, 1)) (ha : a ∈ σ.2.1) (hlay : lay a = 100) (hi : inR i (alen a)) (ih : AtC p l e R s m args below meth c Q D cA nL dm0 ad0 (pc + 1) L r (pI σ a i.toNatClampNeg v) nc ns) : AtC p l e R s m args below meth c Q D cA nL dm0 ad0 pc L (.int v :: .int i :: .ref a :: r) σ nc ns := by
  intro ad H locs ls h1 h2 hl hW hS
  obtain ⟨q, hq, hw⟩ := wsC_at (ad := ad) (cA := cA) ha
  rw [List.map_cons, List.map_cons, List.map_cons, pv_ref (CWd_pos hW ha)]
  refine va_iast B.1 B.2.1 B.2.2.2.2.2.1 hW.1 hW.2.1 hS q 0 (by rw [hw, entC_100 hlay]) rfl hi hd fun H1 locs1 hP1 hD1 hS1 => ?_
  have := hW.set (M' := mC (pI σ a i.toNatClampNeg v)) ha hq (by rw [entC_100 hlay, mC_I, sI_at]) (fun b hb => by rw [mC_I]; exact entC_of (up2_ne hb) rfl rfl) (by rw [mC_I]; exact Wfm_I hW.2.2.2.2 ha) hP1 hD1
  exact ih ad H1 locs1 ls h1 h2 hl this hS1
theorem k_last (B : BdC p R s m args meth c D cA cc nL cn d ini) {a : Nat} {i : Int32} {v : Int64} (hd : decode cc pc = .ok (.lastore, 1)) (ha : a ∈ σ.2.1) (hlay : lay a = 101) (hi : inR i (alen a)) (ih : AtC p l e R s m args below meth c Q D cA nL dm0 ad0 (pc + 1) L r (pL σ a i.toNatClampNeg v) nc ns) : AtC p l e R s m args below meth c Q D cA nL dm0 ad0 pc L (.long v :: .int i :: .ref a :: r) σ nc ns := by
  intro ad H locs ls h1 h2 hl hW hS
  obtain ⟨q, hq, hw⟩ := wsC_at (ad := ad) (cA := cA) ha
  rw [List.map_cons, List.map_cons, List.map_cons, pv_ref (CWd_pos hW ha)]
  refine va_last B.1 B.2.1 B.2.2.2.2.2.1 hW.1 hW.2.1 hS q 1 (by rw [hw, entC_101 hlay]) rfl hi hd fun H1 locs1 hP1 hD1 hS1 => ?_
  have := hW.set (M' := mC (pL σ a i.toNatClampNeg v)) ha hq (by rw [entC_101 hlay, mC_L, sL_at]) (fun b hb => by rw [mC_L]; exact entC_of rfl (up2_ne hb) rfl) (by rw [mC_L]; exact Wfm_L hW.2.2.2.2 ha) hP1 hD1
  exact ih ad H1 locs1 ls h1 h2 hl this hS1
theorem k_aast (B : BdC p R s m args meth c D cA cc nL cn d ini) {a v t ci : Nat} {i : Int32} (hd : decode cc pc = .ok (.aastore, 1)) (ha : a ∈ σ.2.1) (hv : v ∈ σ.2.1) (ht : (t = 5 ∧ ci = 6) ∨ (t = 6 ∧ ci = 1)) (hlay : lay a = 100 + t) (hlv : lay v = ci + 1) (hi : inR i (alen a)) (ih : AtC p l e R s m args below meth c Q D cA nL dm0 ad0 (pc + 1) L r (pR σ a i.toNatClampNeg v) nc ns) : AtC p l e R s m args below meth c Q D cA nL dm0 ad0 pc L (.ref v :: .int i :: .ref a :: r) σ nc ns := by
  intro ad H locs ls h1 h2 hl hW hS
  obtain ⟨q, hq, hw⟩ := wsC_at (ad := ad) (cA := cA) ha
  obtain ⟨qv, hqv, hwv⟩ := wsC_at (ad := ad) (cA := cA) hv
  have hv0 := CWd_pos hW hv
  rw [List.map_cons, List.map_cons, List.map_cons, pv_ref (CWd_pos hW ha), pv_ref hv0]
  have hci : ci < 12 := by omega
  have e1 := hw (mC σ)
  rw [entC_q hlay (by omega)] at e1
  have e2 := hwv (mC σ)
  rw [entC_obj hci hlv] at e2
  have fin : ∀ (H1 : Heap) (locs1 : List Loc), va_P D vwCl ((wsC ad cA σ.2.1 (mC σ)).set q (ad a, .inl (cA t, alen a, .inr (.inr (.inr (.inr (va_up (fun j => po ad ((mC σ).2.2 a j)) i.toNatClampNeg (some (ad v))))))))) H1 → va_D (A0 ad0 dm0 s.heap.size) ((wsC ad cA σ.2.1 (mC σ)).set q (ad a, .inl (cA t, alen a, .inr (.inr (.inr (.inr (va_up (fun j => po ad ((mC σ).2.2 a j)) i.toNatClampNeg (some (ad v))))))))) → va_S (A0 ad0 dm0 s.heap.size) s.heap H1 locs1 → W p l e R s m args below meth c H1 locs1 nc ns Q (F0 m (pc + 1) ls (r.map (pv ad))) := by
    intro H1 locs1 hP1 hD1 hS1
    have := hW.set (M' := mC (pR σ a i.toNatClampNeg v)) ha hq (by
      rw [entC_q hlay (by omega), mC_R, sR_at]
      congr 7
      funext j
      unfold va_up upf
      by_cases hj : j = i.toNatClampNeg
      · rw [if_pos hj, if_pos hj, po, if_neg hv0]
      · rw [if_neg hj, if_neg hj]) (fun b hb => by rw [mC_R]; exact entC_of rfl rfl (up2_ne hb)) (by rw [mC_R]; exact Wfm_R hW.2.2.2.2 ha (Or.inr hv)) hP1 hD1
    exact ih ad H1 locs1 ls h1 h2 hl this hS1
  rcases ht with ⟨rfl, rfl⟩ | ⟨rfl, rfl⟩
  · exact va_astq B.1 B.2.1 B.2.2.2.2.2.1 hW.1 hW.2.1 hS q 5 qv 6 e1 rfl e2 rfl hi hd fin
  · exact va_astq B.1 B.2.1 B.2.2.2.2.2.1 hW.1 hW.2.1 hS q 6 qv 1 e1 rfl e2 rfl hi hd fin
end CM1
