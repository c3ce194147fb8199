theorem gh_sI {M : Mm} {a k : Nat} {v : Int32} : gh (sI M a k v) = gh M := rfl
theorem gh_sL {M : Mm} {a k : Nat} {v : Int64} : gh (sL M a k v) = gh M := rfl
theorem gh_sR {M : Mm} {a k r : Nat} (h : lay a ≠ 0) : gh (sR M a k r) = gh M := by
  have hne : (900 : Nat) ≠ a := by
    intro e
    subst e
    exact h (by decide +kernel)
  show up2 M.2.2 a k r 900 0 = _
  rw [up2_ne hne]
  rfl
def M00 : Mm := (fun _ _ => 0, fun _ _ => 0, fun _ _ => 0)
section SND
variable {p : Program} {l : Launch} {e : Env} {R : Room} {s : State} {m : MethodId} {args : Array Value} {below : List Frame} {meth : Method} {c : Code} {Q : State → Prop}
variable {D : va_G} {ad : Nat → Nat} {cA : Nat → ClassId} {y cn d : Nat} {G : Nat → Prop} {cf sf : Nat → Nat}
/-- what holds in a method's body from its entry on -/
def Bd (p : Program) (R : Room) (s : State) (m : MethodId) (args : Array Value) (c : Code) (D : va_G) (ad : Nat → Nat) (cA : Nat → ClassId) (y cn d : Nat) (G : Nat → Prop) (cf sf : Nat → Nat) : Prop :=
  p.tables.exec = Jvm.exec ∧ c.code = yB y ∧ c.maxLocals = yM y ∧ s.vm.findClass (Rn cn) = some m.cls ∧ (∀ w ∈ gtb, w.before args s = true) ∧ va_K D vwCl (tysM cA) s ∧ va_D (fun _ => True) (wsM ad cA M00) ∧
  Sx ad (AA ad s.heap.size) s s.heap ∧ Nx s ∧ (d + 1 ≤ R.frames ∧ 200 * (d + 1) ≤ R.locals) ∧ ∀ g, G g → cf g ≤ R.cells ∧ sf g ≤ R.slots
def AtW (p : Program) (l : Launch) (e : Env) (R : Room) (s : State) (m : MethodId) (args : Array Value) (below : List Frame) (meth : Method) (c : Code) (Q : State → Prop) (D : va_G) (ad : Nat → Nat) (cA : Nat → ClassId) (y : Nat) (G : Nat → Prop) (cf sf : Nat → Nat) : JJ := fun pc L S M =>
  G (gh M) → ∀ (H : Heap) (locs : List Loc) (ls : Array Slot), lok ad ls (yM y) L → va_P D vwCl (wsM ad cA M) H → va_S (AA ad s.heap.size) s.heap H locs → W p l e R s m args below meth c H locs (cf (gh M)) (sf (gh M)) Q (F0 m pc ls (S.map (pv ad)))
theorem Bd.dd (B : Bd p R s m args c D ad cA y cn d G cf sf) {M : Mm} : va_D (AA ad s.heap.size) (wsM ad cA M) := wsM_DA (wsM_D B.2.2.2.2.2.2.1)
variable {pc : Nat} {L S : List Value} {M : Mm}
theorem o_iconst (B : Bd p R s m args c D ad cA y cn d G cf sf) {K : List Value → List Value → Mm → Prop} {k : Int} (hd : decode (yB y) pc = .ok (.iconst k, 1)) (ih : ∀ L S M, K L S M → AtW p l e R s m args below meth c Q D ad cA y G cf sf (pc + 1) L S M) (h : K L (.int (I k) :: S) M) : AtW p l e R s m args below meth c Q D ad cA y G cf sf pc L S M := by
  intro hg H locs ls hl hP hS
  exact lv_iconst B.1 B.2.1 hd rfl (ih _ _ _ h hg H locs ls hl hP hS)
theorem o_bipush (B : Bd p R s m args c D ad cA y cn d G cf sf) {K : List Value → List Value → Mm → Prop} {k : Int} (hk : (Int8.ofInt k).toInt32 = I k) (hd : decode (yB y) pc = .ok (.bipush k, 2)) (ih : ∀ L S M, K L S M → AtW p l e R s m args below meth c Q D ad cA y G cf sf (pc + 2) L S M) (h : K L (.int (I k) :: S) M) : AtW p l e R s m args below meth c Q D ad cA y G cf sf pc L S M := by
  intro hg H locs ls hl hP hS
  exact lv_bipush B.1 B.2.1 hd hk (ih _ _ _ h hg H locs ls hl hP hS)
theorem o_sipush (B : Bd p R s m args c D ad cA y cn d G cf sf) {K : List Value → List Value → Mm → Prop} {k : Int} (hk : (Int16.ofInt k).toInt32 = I k) (hd : decode (yB y) pc = .ok (.sipush k, 3)) (ih : ∀ L S M, K L S M → AtW p l e R s m args below meth c Q D ad cA y G cf sf (pc + 3) L S M) (h : K L (.int (I k) :: S) M) : AtW p l e R s m args below meth c Q D ad cA y G cf sf pc L S M := by
  intro hg H locs ls hl hP hS
  exact lv_sipush B.1 B.2.1 hd hk (ih _ _ _ h hg H locs ls hl hP hS)
theorem o_ldc (B : Bd p R s m args c D ad cA y cn d G cf sf) {K : List Value → List Value → Mm → Prop} {idx : Nat} {v : Int32} (hw : Cond.constant (Rn cn) idx v ∈ gtb) (hd : decode (yB y) pc = .ok (.ldc idx, 2)) (ih : ∀ L S M, K L S M → AtW p l e R s m args below meth c Q D ad cA y G cf sf (pc + 2) L S M) (h : K L (.int v :: S) M) : AtW p l e R s m args below meth c Q D ad cA y G cf sf pc L S M := by
  intro hg H locs ls hl hP hS
  exact lv_ldc B.1 B.2.1 B.2.2.2.1 (B.2.2.2.2.1 _ hw) hd (ih _ _ _ h hg H locs ls hl hP hS)
theorem o_ldcw (B : Bd p R s m args c D ad cA y cn d G cf sf) {K : List Value → List Value → Mm → Prop} {idx : Nat} {v : Int32} (hw : Cond.constant (Rn cn) idx v ∈ gtb) (hd : decode (yB y) pc = .ok (.ldc_w idx, 3)) (ih : ∀ L S M, K L S M → AtW p l e R s m args below meth c Q D ad cA y G cf sf (pc + 3) L S M) (h : K L (.int v :: S) M) : AtW p l e R s m args below meth c Q D ad cA y G cf sf pc L S M := by
  intro hg H locs ls hl hP hS
  exact lv_ldcw B.1 B.2.1 B.2.2.2.1 (B.2.2.2.2.1 _ hw) hd (ih _ _ _ h hg H locs ls hl hP hS)
theorem o_ldc2 (B : Bd p R s m args c D ad cA y cn d G cf sf) {K : List Value → List Value → Mm → Prop} {idx : Nat} {v : Int64} (hw : Cond.constantLong (Rn cn) idx v ∈ gtb) (hd : decode (yB y) pc = .ok (.ldc2_w idx, 3)) (ih : ∀ L S M, K L S M → AtW p l e R s m args below meth c Q D ad cA y G cf sf (pc + 3) L S M) (h : K L (.long v :: S) M) : AtW p l e R s m args below meth c Q D ad cA y G cf sf pc L S M := by
  intro hg H locs ls hl hP hS
  exact lv_ldc2 B.1 B.2.1 B.2.2.2.1 (B.2.2.2.2.1 _ hw) hd (ih _ _ _ h hg H locs ls hl hP hS)
theorem o_lconst (B : Bd p R s m args c D ad cA y cn d G cf sf) {K : List Value → List Value → Mm → Prop} {k : Fin 2} (hd : decode (yB y) pc = .ok (.lconst k, 1)) (ih : ∀ L S M, K L S M → AtW p l e R s m args below meth c Q D ad cA y G cf sf (pc + 1) L S M) (h : K L (.long (Int64.ofNat k.val) :: S) M) : AtW p l e R s m args below meth c Q D ad cA y G cf sf pc L S M := by
  intro hg H locs ls hl hP hS
  exact lv_lconst B.1 B.2.1 hd rfl (ih _ _ _ h hg H locs ls hl hP hS)
theorem o_null (B : Bd p R s m args c D ad cA y cn d G cf sf) {K : List Value → List Value → Mm → Prop} (hd : decode (yB y) pc = .ok (.aconst_null, 1)) (ih : ∀ L S M, K L S M → AtW p l e R s m args below meth c Q D ad cA y G cf sf (pc + 1) L S M) (h : K L (.ref 0 :: S) M) : AtW p l e R s m args below meth c Q D ad cA y G cf sf pc L S M := by
  intro hg H locs ls hl hP hS
  exact lv_null B.1 B.2.1 hd (ih _ _ _ h hg H locs ls hl hP hS)
theorem o_iloadn (B : Bd p R s m args c D ad cA y cn d G cf sf) {K : List Value → List Value → Mm → Prop} {k : Fin 4} (hd : decode (yB y) pc = .ok (.iload_n k, 1)) (ih : ∀ L S M, K L S M → AtW p l e R s m args below meth c Q D ad cA y G cf sf (pc + 1) L S M) (h : ldI L k.val fun v => K L (v :: S) M) : AtW p l e R s m args below meth c Q D ad cA y G cf sf pc L S M := by
  obtain ⟨x, hx, h1z⟩ := ldI_e h
  intro hg H locs ls hl hP hS
  exact lv_iload_n B.1 B.2.1 hd rfl (hl.2.2.2 _ _ hx rfl) (ih _ _ _ h1z hg H locs ls hl hP hS)
theorem o_iload (B : Bd p R s m args c D ad cA y cn d G cf sf) {K : List Value → List Value → Mm → Prop} {k : Nat} (hd : decode (yB y) pc = .ok (.iload k, 2)) (ih : ∀ L S M, K L S M → AtW p l e R s m args below meth c Q D ad cA y G cf sf (pc + 2) L S M) (h : ldI L k fun v => K L (v :: S) M) : AtW p l e R s m args below meth c Q D ad cA y G cf sf pc L S M := by
  obtain ⟨x, hx, h1z⟩ := ldI_e h
  intro hg H locs ls hl hP hS
  exact lv_iload B.1 B.2.1 hd (hl.2.2.2 _ _ hx rfl) (ih _ _ _ h1z hg H locs ls hl hP hS)
theorem o_lloadn (B : Bd p R s m args c D ad cA y cn d G cf sf) {K : List Value → List Value → Mm → Prop} {k : Fin 4} (hd : decode (yB y) pc = .ok (.lload_n k, 1)) (ih : ∀ L S M, K L S M → AtW p l e R s m args below meth c Q D ad cA y G cf sf (pc + 1) L S M) (h : ldL L k.val fun v => K L (v :: S) M) : AtW p l e R s m args below meth c Q D ad cA y G cf sf pc L S M := by
  obtain ⟨x, hx, h1z⟩ := ldL_e h
  intro hg H locs ls hl hP hS
  exact lv_lload_n B.1 B.2.1 hd rfl (hl.2.2.2 _ _ hx rfl) (ih _ _ _ h1z hg H locs ls hl hP hS)
theorem o_lload (B : Bd p R s m args c D ad cA y cn d G cf sf) {K : List Value → List Value → Mm → Prop} {k : Nat} (hd : decode (yB y) pc = .ok (.lload k, 2)) (ih : ∀ L S M, K L S M → AtW p l e R s m args below meth c Q D ad cA y G cf sf (pc + 2) L S M) (h : ldL L k fun v => K L (v :: S) M) : AtW p l e R s m args below meth c Q D ad cA y G cf sf pc L S M := by
  obtain ⟨x, hx, h1z⟩ := ldL_e h
  intro hg H locs ls hl hP hS
  exact lv_lload B.1 B.2.1 hd (hl.2.2.2 _ _ hx rfl) (ih _ _ _ h1z hg H locs ls hl hP hS)
theorem o_aloadn (B : Bd p R s m args c D ad cA y cn d G cf sf) {K : List Value → List Value → Mm → Prop} {k : Fin 4} (hd : decode (yB y) pc = .ok (.aload_n k, 1)) (ih : ∀ L S M, K L S M → AtW p l e R s m args below meth c Q D ad cA y G cf sf (pc + 1) L S M) (h : ldA L k.val fun v => K L (v :: S) M) : AtW p l e R s m args below meth c Q D ad cA y G cf sf pc L S M := by
  obtain ⟨x, hx, h1z⟩ := ldA_e h
  intro hg H locs ls hl hP hS
  have h1 := hl.2.2.2 _ _ hx rfl
  have h2 := ih _ _ _ h1z hg H locs ls hl hP hS
  by_cases h0 : x = 0
  · subst h0
    exact lv_aload_nN B.1 B.2.1 hd rfl h1 h2
  · rw [pv_ref h0] at h1
    rw [List.map_cons, pv_ref h0] at h2
    exact lv_aload_n B.1 B.2.1 hd rfl h1 h2
theorem o_aload (B : Bd p R s m args c D ad cA y cn d G cf sf) {K : List Value → List Value → Mm → Prop} {k : Nat} (hd : decode (yB y) pc = .ok (.aload k, 2)) (ih : ∀ L S M, K L S M → AtW p l e R s m args below meth c Q D ad cA y G cf sf (pc + 2) L S M) (h : ldA L k fun v => K L (v :: S) M) : AtW p l e R s m args below meth c Q D ad cA y G cf sf pc L S M := by
  obtain ⟨x, hx, h1z⟩ := ldA_e h
  intro hg H locs ls hl hP hS
  have h1 := hl.2.2.2 _ _ hx rfl
  have h2 := ih _ _ _ h1z hg H locs ls hl hP hS
  by_cases h0 : x = 0
  · subst h0
    exact lv_aloadN B.1 B.2.1 hd h1 h2
  · rw [pv_ref h0] at h1
    rw [List.map_cons, pv_ref h0] at h2
    exact lv_aload B.1 B.2.1 hd h1 h2
theorem o_istoren (B : Bd p R s m args c D ad cA y cn d G cf sf) {K : List Value → List Value → Mm → Prop} {k : Fin 4} (hk : k.val < yM y) (hd : decode (yB y) pc = .ok (.istore_n k, 1)) (ih : ∀ L S M, K L S M → AtW p l e R s m args below meth c Q D ad cA y G cf sf (pc + 1) L S M) (h : popI S fun v r => K (stv L k.val (.int v)) r M) : AtW p l e R s m args below meth c Q D ad cA y G cf sf pc L S M := by
  obtain ⟨x, r, rfl, h1z⟩ := popI_e h
  intro hg H locs ls hl hP hS
  exact lv_istore_n B.1 B.2.1 hd rfl hl.has hk rfl fun ls2 h2 => ih _ _ _ h1z hg H locs ls2 (hl.st1 h2) hP hS
theorem o_astoren (B : Bd p R s m args c D ad cA y cn d G cf sf) {K : List Value → List Value → Mm → Prop} {k : Fin 4} (hk : k.val < yM y) (hd : decode (yB y) pc = .ok (.astore_n k, 1)) (ih : ∀ L S M, K L S M → AtW p l e R s m args below meth c Q D ad cA y G cf sf (pc + 1) L S M) (h : popA S fun v r => K (stv L k.val (.ref v)) r M) : AtW p l e R s m args below meth c Q D ad cA y G cf sf pc L S M := by
  obtain ⟨x, r, rfl, h1z⟩ := popA_e h
  intro hg H locs ls hl hP hS
  by_cases h0 : x = 0
  · subst h0
    exact lv_astore_nN B.1 B.2.1 hd rfl hl.has hk rfl fun ls2 h2 => ih _ _ _ h1z hg H locs ls2 (hl.st1 h2) hP hS
  · rw [List.map_cons, pv_ref h0]
    exact lv_astore_n B.1 B.2.1 hd rfl hl.has hk rfl fun ls2 h2 => ih _ _ _ h1z hg H locs ls2 (hl.st1 (by rw [pv_ref h0]; exact h2)) hP hS
theorem o_lstoren (B : Bd p R s m args c D ad cA y cn d G cf sf) {K : List Value → List Value → Mm → Prop} {k : Fin 4} (hk : k.val + 1 < yM y) (hd : decode (yB y) pc = .ok (.lstore_n k, 1)) (ih : ∀ L S M, K L S M → AtW p l e R s m args below meth c Q D ad cA y G cf sf (pc + 1) L S M) (h : popL S fun v r => K (stw L k.val (.long v)) r M) : AtW p l e R s m args below meth c Q D ad cA y G cf sf pc L S M := by
  obtain ⟨x, r, rfl, h1z⟩ := popL_e h
  intro hg H locs ls hl hP hS
  exact lv_lstore_n B.1 B.2.1 hd rfl hl.has hk rfl fun ls2 h2 => ih _ _ _ h1z hg H locs ls2 (hl.st2 h2) hP hS
theorem o_istore (B : Bd p R s m args c D ad cA y cn d G cf sf) {K : List Value → List Value → Mm → Prop} {k : Nat} (hk : k < yM y) (hd : decode (yB y) pc = .ok (.istore k, 2)) (ih : ∀ L S M, K L S M → AtW p l e R s m args below meth c Q D ad cA y G cf sf (pc + 2) L S M) (h : popI S fun v r => K (stv L k (.int v)) r M) : AtW p l e R s m args below meth c Q D ad cA y G cf sf pc L S M := by
  obtain ⟨x, r, rfl, h1z⟩ := popI_e h
  intro hg H locs ls hl hP hS
  exact lv_istore B.1 B.2.1 hd hl.has hk rfl fun ls2 h2 => ih _ _ _ h1z hg H locs ls2 (hl.st1 h2) hP hS
theorem o_astore (B : Bd p R s m args c D ad cA y cn d G cf sf) {K : List Value → List Value → Mm → Prop} {k : Nat} (hk : k < yM y) (hd : decode (yB y) pc = .ok (.astore k, 2)) (ih : ∀ L S M, K L S M → AtW p l e R s m args below meth c Q D ad cA y G cf sf (pc + 2) L S M) (h : popA S fun v r => K (stv L k (.ref v)) r M) : AtW p l e R s m args below meth c Q D ad cA y G cf sf pc L S M := by
  obtain ⟨x, r, rfl, h1z⟩ := popA_e h
  intro hg H locs ls hl hP hS
  by_cases h0 : x = 0
  · subst h0
    exact lv_astoreN B.1 B.2.1 hd hl.has hk rfl fun ls2 h2 => ih _ _ _ h1z hg H locs ls2 (hl.st1 h2) hP hS
  · rw [List.map_cons, pv_ref h0]
    exact lv_astore B.1 B.2.1 hd hl.has hk rfl fun ls2 h2 => ih _ _ _ h1z hg H locs ls2 (hl.st1 (by rw [pv_ref h0]; exact h2)) hP hS
theorem o_lstore (B : Bd p R s m args c D ad cA y cn d G cf sf) {K : List Value → List Value → Mm → Prop} {k : Nat} (hk : k + 1 < yM y) (hd : decode (yB y) pc = .ok (.lstore k, 2)) (ih : ∀ L S M, K L S M → AtW p l e R s m args below meth c Q D ad cA y G cf sf (pc + 2) L S M) (h : popL S fun v r => K (stw L k (.long v)) r M) : AtW p l e R s m args below meth c Q D ad cA y G cf sf pc L S M := by
  obtain ⟨x, r, rfl, h1z⟩ := popL_e h
  intro hg H locs ls hl hP hS
  exact lv_lstore B.1 B.2.1 hd hl.has hk rfl fun ls2 h2 => ih _ _ _ h1z hg H locs ls2 (hl.st2 h2) hP hS
theorem o_iinc (B : Bd p R s m args c D ad cA y cn d G cf sf) {K : List Value → List Value → Mm → Prop} {k : Nat} {n : Int} (hk : k < yM y) (hd : decode (yB y) pc = .ok (.iinc k n, 3)) (ih : ∀ L S M, K L S M → AtW p l e R s m args below meth c Q D ad cA y G cf sf (pc + 3) L S M) (h : ldI L k fun v => popI [v] fun x _ => K (stv L k (.int (x + I n))) S M) : AtW p l e R s m args below meth c Q D ad cA y G cf sf pc L S M := by
  obtain ⟨x, hx, h1z⟩ := ldI_e h
  intro hg H locs ls hl hP hS
  obtain ⟨j, hj⟩ := List.getElem?_of_mem (lpl_mem (ad := ad).mpr ⟨_, hx, rfl, rfl⟩)
  exact lv_iinc B.1 B.2.1 hd hl.has hj rfl hk rfl fun ls2 h2 => ih _ _ _ h1z hg H locs ls2 (hl.st1 h2) hP hS
theorem o_iadd (B : Bd p R s m args c D ad cA y cn d G cf sf) {K : List Value → List Value → Mm → Prop} (hd : decode (yB y) pc = .ok (.iadd, 1)) (ih : ∀ L S M, K L S M → AtW p l e R s m args below meth c Q D ad cA y G cf sf (pc + 1) L S M) (h : popI S fun y r => popI r fun x r => K L (.int (x + y) :: r) M) : AtW p l e R s m args below meth c Q D ad cA y G cf sf pc L S M := by
  obtain ⟨b, r, rfl, h1z⟩ := popI_e h
  obtain ⟨a, r, rfl, h2z⟩ := popI_e h1z
  intro hg H locs ls hl hP hS
  exact lv_iadd B.1 B.2.1 hd (ih _ _ _ h2z hg H locs ls hl hP hS)
theorem o_isub (B : Bd p R s m args c D ad cA y cn d G cf sf) {K : List Value → List Value → Mm → Prop} (hd : decode (yB y) pc = .ok (.isub, 1)) (ih : ∀ L S M, K L S M → AtW p l e R s m args below meth c Q D ad cA y G cf sf (pc + 1) L S M) (h : popI S fun y r => popI r fun x r => K L (.int (x - y) :: r) M) : AtW p l e R s m args below meth c Q D ad cA y G cf sf pc L S M := by
  obtain ⟨b, r, rfl, h1z⟩ := popI_e h
  obtain ⟨a, r, rfl, h2z⟩ := popI_e h1z
  intro hg H locs ls hl hP hS
  exact lv_isub B.1 B.2.1 hd (ih _ _ _ h2z hg H locs ls hl hP hS)
theorem o_imul (B : Bd p R s m args c D ad cA y cn d G cf sf) {K : List Value → List Value → Mm → Prop} (hd : decode (yB y) pc = .ok (.imul, 1)) (ih : ∀ L S M, K L S M → AtW p l e R s m args below meth c Q D ad cA y G cf sf (pc + 1) L S M) (h : popI S fun y r => popI r fun x r => K L (.int (x * y) :: r) M) : AtW p l e R s m args below meth c Q D ad cA y G cf sf pc L S M := by
  obtain ⟨b, r, rfl, h1z⟩ := popI_e h
  obtain ⟨a, r, rfl, h2z⟩ := popI_e h1z
  intro hg H locs ls hl hP hS
  exact lv_imul B.1 B.2.1 hd (ih _ _ _ h2z hg H locs ls hl hP hS)
theorem o_iand (B : Bd p R s m args c D ad cA y cn d G cf sf) {K : List Value → List Value → Mm → Prop} (hd : decode (yB y) pc = .ok (.iand, 1)) (ih : ∀ L S M, K L S M → AtW p l e R s m args below meth c Q D ad cA y G cf sf (pc + 1) L S M) (h : popI S fun y r => popI r fun x r => K L (.int (x &&& y) :: r) M) : AtW p l e R s m args below meth c Q D ad cA y G cf sf pc L S M := by
  obtain ⟨b, r, rfl, h1z⟩ := popI_e h
  obtain ⟨a, r, rfl, h2z⟩ := popI_e h1z
  intro hg H locs ls hl hP hS
  exact lv_iand B.1 B.2.1 hd (ih _ _ _ h2z hg H locs ls hl hP hS)
theorem o_ior (B : Bd p R s m args c D ad cA y cn d G cf sf) {K : List Value → List Value → Mm → Prop} (hd : decode (yB y) pc = .ok (.ior, 1)) (ih : ∀ L S M, K L S M → AtW p l e R s m args below meth c Q D ad cA y G cf sf (pc + 1) L S M) (h : popI S fun y r => popI r fun x r => K L (.int (x ||| y) :: r) M) : AtW p l e R s m args below meth c Q D ad cA y G cf sf pc L S M := by
  obtain ⟨b, r, rfl, h1z⟩ := popI_e h
  obtain ⟨a, r, rfl, h2z⟩ := popI_e h1z
  intro hg H locs ls hl hP hS
  exact lv_ior B.1 B.2.1 hd (ih _ _ _ h2z hg H locs ls hl hP hS)
theorem o_ixor (B : Bd p R s m args c D ad cA y cn d G cf sf) {K : List Value → List Value → Mm → Prop} (hd : decode (yB y) pc = .ok (.ixor, 1)) (ih : ∀ L S M, K L S M → AtW p l e R s m args below meth c Q D ad cA y G cf sf (pc + 1) L S M) (h : popI S fun y r => popI r fun x r => K L (.int (x ^^^ y) :: r) M) : AtW p l e R s m args below meth c Q D ad cA y G cf sf pc L S M := by
  obtain ⟨b, r, rfl, h1z⟩ := popI_e h
  obtain ⟨a, r, rfl, h2z⟩ := popI_e h1z
  intro hg H locs ls hl hP hS
  exact lv_ixor B.1 B.2.1 hd (ih _ _ _ h2z hg H locs ls hl hP hS)
theorem o_ishl (B : Bd p R s m args c D ad cA y cn d G cf sf) {K : List Value → List Value → Mm → Prop} (hd : decode (yB y) pc = .ok (.ishl, 1)) (ih : ∀ L S M, K L S M → AtW p l e R s m args below meth c Q D ad cA y G cf sf (pc + 1) L S M) (h : popI S fun y r => popI r fun x r => K L (.int (x <<< (y &&& 31)) :: r) M) : AtW p l e R s m args below meth c Q D ad cA y G cf sf pc L S M := by
  obtain ⟨b, r, rfl, h1z⟩ := popI_e h
  obtain ⟨a, r, rfl, h2z⟩ := popI_e h1z
  intro hg H locs ls hl hP hS
  exact lv_ishl B.1 B.2.1 hd (ih _ _ _ h2z hg H locs ls hl hP hS)
theorem o_ishr (B : Bd p R s m args c D ad cA y cn d G cf sf) {K : List Value → List Value → Mm → Prop} (hd : decode (yB y) pc = .ok (.ishr, 1)) (ih : ∀ L S M, K L S M → AtW p l e R s m args below meth c Q D ad cA y G cf sf (pc + 1) L S M) (h : popI S fun y r => popI r fun x r => K L (.int (x >>> (y &&& 31)) :: r) M) : AtW p l e R s m args below meth c Q D ad cA y G cf sf pc L S M := by
  obtain ⟨b, r, rfl, h1z⟩ := popI_e h
  obtain ⟨a, r, rfl, h2z⟩ := popI_e h1z
  intro hg H locs ls hl hP hS
  exact lv_ishr B.1 B.2.1 hd (ih _ _ _ h2z hg H locs ls hl hP hS)
theorem o_iushr (B : Bd p R s m args c D ad cA y cn d G cf sf) {K : List Value → List Value → Mm → Prop} (hd : decode (yB y) pc = .ok (.iushr, 1)) (ih : ∀ L S M, K L S M → AtW p l e R s m args below meth c Q D ad cA y G cf sf (pc + 1) L S M) (h : popI S fun y r => popI r fun x r => K L (.int ((x.toUInt32 >>> (y.toUInt32 &&& Int32.toUInt32 31)).toInt32) :: r) M) : AtW p l e R s m args below meth c Q D ad cA y G cf sf pc L S M := by
  obtain ⟨b, r, rfl, h1z⟩ := popI_e h
  obtain ⟨a, r, rfl, h2z⟩ := popI_e h1z
  intro hg H locs ls hl hP hS
  exact lv_iushr B.1 B.2.1 hd rfl (ih _ _ _ h2z hg H locs ls hl hP hS)
theorem o_idiv (B : Bd p R s m args c D ad cA y cn d G cf sf) {K : List Value → List Value → Mm → Prop} (hd : decode (yB y) pc = .ok (.idiv, 1)) (ih : ∀ L S M, K L S M → AtW p l e R s m args below meth c Q D ad cA y G cf sf (pc + 1) L S M) (h : popI S fun y r => popI r fun x r => ¬ y = 0 ∧ K L (.int (x / y) :: r) M) : AtW p l e R s m args below meth c Q D ad cA y G cf sf pc L S M := by
  obtain ⟨b, r, rfl, h1z⟩ := popI_e h
  obtain ⟨a, r, rfl, h0, h2z⟩ := popI_e h1z
  intro hg H locs ls hl hP hS
  exact lv_idiv B.1 B.2.1 hd h0 (ih _ _ _ h2z hg H locs ls hl hP hS)
theorem o_irem (B : Bd p R s m args c D ad cA y cn d G cf sf) {K : List Value → List Value → Mm → Prop} (hd : decode (yB y) pc = .ok (.irem, 1)) (ih : ∀ L S M, K L S M → AtW p l e R s m args below meth c Q D ad cA y G cf sf (pc + 1) L S M) (h : popI S fun y r => popI r fun x r => ¬ y = 0 ∧ K L (.int (x - x / y * y) :: r) M) : AtW p l e R s m args below meth c Q D ad cA y G cf sf pc L S M := by
  obtain ⟨b, r, rfl, h1z⟩ := popI_e h
  obtain ⟨a, r, rfl, h0, h2z⟩ := popI_e h1z
  intro hg H locs ls hl hP hS
  exact lv_irem B.1 B.2.1 hd h0 (ih _ _ _ h2z hg H locs ls hl hP hS)
theorem o_ladd (B : Bd p R s m args c D ad cA y cn d G cf sf) {K : List Value → List Value → Mm → Prop} (hd : decode (yB y) pc = .ok (.ladd, 1)) (ih : ∀ L S M, K L S M → AtW p l e R s m args below meth c Q D ad cA y G cf sf (pc + 1) L S M) (h : popL S fun y r => popL r fun x r => K L (.long (x + y) :: r) M) : AtW p l e R s m args below meth c Q D ad cA y G cf sf pc L S M := by
  obtain ⟨b, r, rfl, h1z⟩ := popL_e h
  obtain ⟨a, r, rfl, h2z⟩ := popL_e h1z
  intro hg H locs ls hl hP hS
  exact lv_ladd B.1 B.2.1 hd (ih _ _ _ h2z hg H locs ls hl hP hS)
theorem o_lmul (B : Bd p R s m args c D ad cA y cn d G cf sf) {K : List Value → List Value → Mm → Prop} (hd : decode (yB y) pc = .ok (.lmul, 1)) (ih : ∀ L S M, K L S M → AtW p l e R s m args below meth c Q D ad cA y G cf sf (pc + 1) L S M) (h : popL S fun y r => popL r fun x r => K L (.long (x * y) :: r) M) : AtW p l e R s m args below meth c Q D ad cA y G cf sf pc L S M := by
  obtain ⟨b, r, rfl, h1z⟩ := popL_e h
  obtain ⟨a, r, rfl, h2z⟩ := popL_e h1z
  intro hg H locs ls hl hP hS
  exact lv_lmul B.1 B.2.1 hd (ih _ _ _ h2z hg H locs ls hl hP hS)
theorem o_lor (B : Bd p R s m args c D ad cA y cn d G cf sf) {K : List Value → List Value → Mm → Prop} (hd : decode (yB y) pc = .ok (.lor, 1)) (ih : ∀ L S M, K L S M → AtW p l e R s m args below meth c Q D ad cA y G cf sf (pc + 1) L S M) (h : popL S fun y r => popL r fun x r => K L (.long (x ||| y) :: r) M) : AtW p l e R s m args below meth c Q D ad cA y G cf sf pc L S M := by
  obtain ⟨b, r, rfl, h1z⟩ := popL_e h
  obtain ⟨a, r, rfl, h2z⟩ := popL_e h1z
  intro hg H locs ls hl hP hS
  exact lv_lor B.1 B.2.1 hd (ih _ _ _ h2z hg H locs ls hl hP hS)
theorem o_lshl (B : Bd p R s m args c D ad cA y cn d G cf sf) {K : List Value → List Value → Mm → Prop} (hd : decode (yB y) pc = .ok (.lshl, 1)) (ih : ∀ L S M, K L S M → AtW p l e R s m args below meth c Q D ad cA y G cf sf (pc + 1) L S M) (h : popI S fun y r => popL r fun x r => K L (.long (x <<< (y.toInt64 &&& 63)) :: r) M) : AtW p l e R s m args below meth c Q D ad cA y G cf sf pc L S M := by
  obtain ⟨b, r, rfl, h1z⟩ := popI_e h
  obtain ⟨a, r, rfl, h2z⟩ := popL_e h1z
  intro hg H locs ls hl hP hS
  exact lv_lshl B.1 B.2.1 hd rfl (ih _ _ _ h2z hg H locs ls hl hP hS)
theorem o_lcmp (B : Bd p R s m args c D ad cA y cn d G cf sf) {K : List Value → List Value → Mm → Prop} (hd : decode (yB y) pc = .ok (.lcmp, 1)) (ih : ∀ L S M, K L S M → AtW p l e R s m args below meth c Q D ad cA y G cf sf (pc + 1) L S M) (h : popL S fun y r => popL r fun x r => K L (.int (lg_cmp x y) :: r) M) : AtW p l e R s m args below meth c Q D ad cA y G cf sf pc L S M := by
  obtain ⟨b, r, rfl, h1z⟩ := popL_e h
  obtain ⟨a, r, rfl, h2z⟩ := popL_e h1z
  intro hg H locs ls hl hP hS
  exact W.lcmp B.1 B.2.1 hd (ih _ _ _ h2z hg H locs ls hl hP hS)
theorem o_i2l (B : Bd p R s m args c D ad cA y cn d G cf sf) {K : List Value → List Value → Mm → Prop} (hd : decode (yB y) pc = .ok (.i2l, 1)) (ih : ∀ L S M, K L S M → AtW p l e R s m args below meth c Q D ad cA y G cf sf (pc + 1) L S M) (h : popI S fun x r => K L (.long x.toInt64 :: r) M) : AtW p l e R s m args below meth c Q D ad cA y G cf sf pc L S M := by
  obtain ⟨a, r, rfl, h1z⟩ := popI_e h
  intro hg H locs ls hl hP hS
  exact lv_i2l B.1 B.2.1 hd rfl (ih _ _ _ h1z hg H locs ls hl hP hS)
theorem o_i2b (B : Bd p R s m args c D ad cA y cn d G cf sf) {K : List Value → List Value → Mm → Prop} (hd : decode (yB y) pc = .ok (.i2b, 1)) (ih : ∀ L S M, K L S M → AtW p l e R s m args below meth c Q D ad cA y G cf sf (pc + 1) L S M) (h : popI S fun x r => K L (.int x.toInt8.toInt32 :: r) M) : AtW p l e R s m args below meth c Q D ad cA y G cf sf pc L S M := by
  obtain ⟨a, r, rfl, h1z⟩ := popI_e h
  intro hg H locs ls hl hP hS
  exact lv_i2b B.1 B.2.1 hd rfl (ih _ _ _ h1z hg H locs ls hl hP hS)
theorem o_dup (B : Bd p R s m args c D ad cA y cn d G cf sf) {K : List Value → List Value → Mm → Prop} (hd : decode (yB y) pc = .ok (.dup, 1)) (ih : ∀ L S M, K L S M → AtW p l e R s m args below meth c Q D ad cA y G cf sf (pc + 1) L S M) (h : pop1 S fun v r => K L (v :: v :: r) M) : AtW p l e R s m args below meth c Q D ad cA y G cf sf pc L S M := by
  obtain ⟨v, r, rfl, hc, h1z⟩ := pop1_e h
  intro hg H locs ls hl hP hS
  exact lv_dup B.1 B.2.1 hd (by rw [pv_cat]; exact hc) (ih _ _ _ h1z hg H locs ls hl hP hS)
theorem o_pop (B : Bd p R s m args c D ad cA y cn d G cf sf) {K : List Value → List Value → Mm → Prop} (hd : decode (yB y) pc = .ok (.pop, 1)) (ih : ∀ L S M, K L S M → AtW p l e R s m args below meth c Q D ad cA y G cf sf (pc + 1) L S M) (h : pop1 S fun _ r => K L r M) : AtW p l e R s m args below meth c Q D ad cA y G cf sf pc L S M := by
  obtain ⟨v, r, rfl, hc, h1z⟩ := pop1_e h
  intro hg H locs ls hl hP hS
  exact lv_pop B.1 B.2.1 hd (by rw [pv_cat]; exact hc) (ih _ _ _ h1z hg H locs ls hl hP hS)
theorem o_dup2 (B : Bd p R s m args c D ad cA y cn d G cf sf) {K : List Value → List Value → Mm → Prop} (hd : decode (yB y) pc = .ok (.dup2, 1)) (ih : ∀ L S M, K L S M → AtW p l e R s m args below meth c Q D ad cA y G cf sf (pc + 1) L S M) (h : pop1 S fun v r => pop1 r fun w r => K L (v :: w :: v :: w :: r) M) : AtW p l e R s m args below meth c Q D ad cA y G cf sf pc L S M := by
  obtain ⟨v, r, rfl, hc, h1z⟩ := pop1_e h
  obtain ⟨w, r, rfl, hc2, h2z⟩ := pop1_e h1z
  intro hg H locs ls hl hP hS
  exact lv_dup2_11 B.1 B.2.1 hd (by rw [pv_cat]; exact hc) (by rw [pv_cat]; exact hc2) (ih _ _ _ h2z hg H locs ls hl hP hS)
theorem o_goto (B : Bd p R s m args c D ad cA y cn d G cf sf) {K K2 : List Value → List Value → Mm → Prop} {t : Nat} {off : Int} (hd : decode (yB y) pc = .ok (.goto off, 3)) (ht : (pc : Int) + off = (t : Int)) (ih : ∀ L S M, K L S M → AtW p l e R s m args below meth c Q D ad cA y G cf sf (pc + 3) L S M) (ij : ∀ L S M, K2 L S M → AtW p l e R s m args below meth c Q D ad cA y G cf sf t L S M) (h : K2 L S M) : AtW p l e R s m args below meth c Q D ad cA y G cf sf pc L S M := by
  intro hg H locs ls hl hP hS
  exact lv_goto B.1 B.2.1 hd ht (ij _ _ _ h hg H locs ls hl hP hS)
theorem o_icmp (B : Bd p R s m args c D ad cA y cn d G cf sf) {K K2 : List Value → List Value → Mm → Prop} {t : Nat} {off : Int} {cc : Jvm.ClassFile.Cond} (hd : decode (yB y) pc = .ok (.if_icmp cc off, 3)) (ht : (pc : Int) + off = (t : Int)) (ih : ∀ L S M, K L S M → AtW p l e R s m args below meth c Q D ad cA y G cf sf (pc + 3) L S M) (ij : ∀ L S M, K2 L S M → AtW p l e R s m args below meth c Q D ad cA y G cf sf t L S M) (h : popI S fun y r => popI r fun x r => (cmpI cc x y → K2 L r M) ∧ (¬ cmpI cc x y → K L r M)) : AtW p l e R s m args below meth c Q D ad cA y G cf sf pc L S M := by
  obtain ⟨b, r, rfl, h1z⟩ := popI_e h
  obtain ⟨a, r, rfl, h2z⟩ := popI_e h1z
  intro hg H locs ls hl hP hS
  cases cc with
  | eq => exact lv_icmp_eq B.1 B.2.1 hd ht (fun q => ij _ _ _ (h2z.1 (by simpa [cmpI] using q)) hg H locs ls hl hP hS) (fun q => ih _ _ _ (h2z.2 (by simpa [cmpI] using q)) hg H locs ls hl hP hS)
  | ne => exact lv_icmp_ne B.1 B.2.1 hd ht (fun q => ij _ _ _ (h2z.1 (by simpa [cmpI] using q)) hg H locs ls hl hP hS) (fun q => ih _ _ _ (h2z.2 (by simpa [cmpI] using q)) hg H locs ls hl hP hS)
  | lt => exact lv_icmp_lt B.1 B.2.1 hd ht (fun q => ij _ _ _ (h2z.1 (by simpa [cmpI] using q)) hg H locs ls hl hP hS) (fun q => ih _ _ _ (h2z.2 (by simpa [cmpI] using q)) hg H locs ls hl hP hS)
  | ge => exact lv_icmp_ge B.1 B.2.1 hd ht (fun q => ij _ _ _ (h2z.1 (by simpa [cmpI] using q)) hg H locs ls hl hP hS) (fun q => ih _ _ _ (h2z.2 (by simpa [cmpI] using q)) hg H locs ls hl hP hS)
  | gt => exact lv_icmp_gt B.1 B.2.1 hd ht (fun q => ij _ _ _ (h2z.1 (by simpa [cmpI] using q)) hg H locs ls hl hP hS) (fun q => ih _ _ _ (h2z.2 (by simpa [cmpI] using q)) hg H locs ls hl hP hS)
  | le => exact lv_icmp_le B.1 B.2.1 hd ht (fun q => ij _ _ _ (h2z.1 (by simpa [cmpI] using q)) hg H locs ls hl hP hS) (fun q => ih _ _ _ (h2z.2 (by simpa [cmpI] using q)) hg H locs ls hl hP hS)
theorem o_ifc (B : Bd p R s m args c D ad cA y cn d G cf sf) {K K2 : List Value → List Value → Mm → Prop} {t : Nat} {off : Int} {cc : Jvm.ClassFile.Cond} (hd : decode (yB y) pc = .ok (.ifCond cc off, 3)) (ht : (pc : Int) + off = (t : Int)) (ih : ∀ L S M, K L S M → AtW p l e R s m args below meth c Q D ad cA y G cf sf (pc + 3) L S M) (ij : ∀ L S M, K2 L S M → AtW p l e R s m args below meth c Q D ad cA y G cf sf t L S M) (h : popI S fun x r => (cmpI cc x 0 → K2 L r M) ∧ (¬ cmpI cc x 0 → K L r M)) : AtW p l e R s m args below meth c Q D ad cA y G cf sf pc L S M := by
  obtain ⟨a, r, rfl, h1z⟩ := popI_e h
  intro hg H locs ls hl hP hS
  cases cc with
  | eq => exact lv_if_eq B.1 B.2.1 hd ht (fun q => ij _ _ _ (h1z.1 (by simpa [cmpI] using q)) hg H locs ls hl hP hS) (fun q => ih _ _ _ (h1z.2 (by simpa [cmpI] using q)) hg H locs ls hl hP hS)
  | ne => exact lv_if_ne B.1 B.2.1 hd ht (fun q => ij _ _ _ (h1z.1 (by simpa [cmpI] using q)) hg H locs ls hl hP hS) (fun q => ih _ _ _ (h1z.2 (by simpa [cmpI] using q)) hg H locs ls hl hP hS)
  | lt => exact lv_if_lt B.1 B.2.1 hd ht (fun q => ij _ _ _ (h1z.1 (by simpa [cmpI] using q)) hg H locs ls hl hP hS) (fun q => ih _ _ _ (h1z.2 (by simpa [cmpI] using q)) hg H locs ls hl hP hS)
  | ge => exact lv_if_ge B.1 B.2.1 hd ht (fun q => ij _ _ _ (h1z.1 (by simpa [cmpI] using q)) hg H locs ls hl hP hS) (fun q => ih _ _ _ (h1z.2 (by simpa [cmpI] using q)) hg H locs ls hl hP hS)
  | gt => exact lv_if_gt B.1 B.2.1 hd ht (fun q => ij _ _ _ (h1z.1 (by simpa [cmpI] using q)) hg H locs ls hl hP hS) (fun q => ih _ _ _ (h1z.2 (by simpa [cmpI] using q)) hg H locs ls hl hP hS)
  | le => exact lv_if_le B.1 B.2.1 hd ht (fun q => ij _ _ _ (h1z.1 (by simpa [cmpI] using q)) hg H locs ls hl hP hS) (fun q => ih _ _ _ (h1z.2 (by simpa [cmpI] using q)) hg H locs ls hl hP hS)
theorem o_ifnull (B : Bd p R s m args c D ad cA y cn d G cf sf) {K K2 : List Value → List Value → Mm → Prop} {t : Nat} {off : Int} (hd : decode (yB y) pc = .ok (.ifnull off, 3)) (ht : (pc : Int) + off = (t : Int)) (ih : ∀ L S M, K L S M → AtW p l e R s m args below meth c Q D ad cA y G cf sf (pc + 3) L S M) (ij : ∀ L S M, K2 L S M → AtW p l e R s m args below meth c Q D ad cA y G cf sf t L S M) (h : popA S fun x r => (x = 0 → K2 L r M) ∧ (¬ x = 0 → K L r M)) : AtW p l e R s m args below meth c Q D ad cA y G cf sf pc L S M := by
  obtain ⟨a, r, rfl, h1z⟩ := popA_e h
  intro hg H locs ls hl hP hS
  by_cases h0 : a = 0
  · subst h0
    exact lv_ifnullN B.1 B.2.1 hd ht (ij _ _ _ (h1z.1 rfl) hg H locs ls hl hP hS)
  · rw [List.map_cons, pv_ref h0]
    exact lv_ifnull B.1 B.2.1 hd (ih _ _ _ (h1z.2 h0) hg H locs ls hl hP hS)
theorem o_ifnonnull (B : Bd p R s m args c D ad cA y cn d G cf sf) {K K2 : List Value → List Value → Mm → Prop} {t : Nat} {off : Int} (hd : decode (yB y) pc = .ok (.ifnonnull off, 3)) (ht : (pc : Int) + off = (t : Int)) (ih : ∀ L S M, K L S M → AtW p l e R s m args below meth c Q D ad cA y G cf sf (pc + 3) L S M) (ij : ∀ L S M, K2 L S M → AtW p l e R s m args below meth c Q D ad cA y G cf sf t L S M) (h : popA S fun x r => (¬ x = 0 → K2 L r M) ∧ (x = 0 → K L r M)) : AtW p l e R s m args below meth c Q D ad cA y G cf sf pc L S M := by
  obtain ⟨a, r, rfl, h1z⟩ := popA_e h
  intro hg H locs ls hl hP hS
  by_cases h0 : a = 0
  · subst h0
    exact lv_ifnonnullN B.1 B.2.1 hd (ih _ _ _ (h1z.2 rfl) hg H locs ls hl hP hS)
  · rw [List.map_cons, pv_ref h0]
    exact lv_ifnonnull B.1 B.2.1 hd ht (ij _ _ _ (h1z.1 h0) hg H locs ls hl hP hS)
end SND
