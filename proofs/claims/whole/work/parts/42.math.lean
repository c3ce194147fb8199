/-! ===== Math.floorMod: a class that has rows of its own in the natives, but not for this name ===== -/
theorem Met.ofWF {l : Launch} {y : MethodName} {ws ws' : List Cond} {rm : Room} {Pc : Array Value → State → Prop} {Qc : Array Value → State → Outcome → State → Prop} {mc ms : Nat} {free : Addr → Prop} {cc : ByteArray} {maxL : Nat} {ret : Option FieldType}
    (hy : plainFor y = true) (hw : ws = Cond.code y cc maxL ret :: ws')
    (body : ∀ p e s m args below meth c s₁, BodyLoose p l y (headSpec ws rm) cc maxL ret e s m args below meth c s₁ → c.maxLocals = maxL → Pc args s →
      W p l e (headSpec ws rm).room s m args below meth c s.heap [] 0 0 (MQ below Qc args s mc ms free) (entryFrame m args maxL)) : Met l y ws rm Pc Qc mc ms free := by
  refine MetFree.of_bodySF (code := cc) (maxLocals := maxL) (ret := ret) hy ?_ ?_
  · intro args s m h hn
    obtain ⟨meth, c, h1, h2, h3, h4, h5, h6, -, -⟩ := Cond.code_spec hn (atoms_spec (ws := ws) h _ (by rw [hw]; exact List.mem_cons_self))
    exact ⟨meth, c, h1, h2, h3, h4, h5, h6⟩
  · intro p e s m args below meth c s₁ B hml hP _
    have hh0 : s₁.heap = s.heap := by rw [B.state]; rfl
    obtain ⟨t, a1, o, b1, b2, b3⟩ := body p e s m args below meth c s₁ B hml hP s₁ hh0 (Stand.of_body B)
    exact ⟨t, o, a1, b1, b2, ⟨b3.1, b3.2⟩⟩
def okF (y cn : Nat) (C : List Op) : Bool := chk false y cn C && (decide (Rn cn = (yN y).cls) && (Nat.blt y 281 && (!decide (y ∈ yLaw) && decide (hdP C = some 0))))
theorem Ev.introF {y cn d : Nat} {C : List Op} {args L0 : List Value} {M M' : Mm} {r : Option Value} (hF : plainFor (yN y) = true) (hk : okF y cn C = true) (hle : Nat.ble (entL args).length (yM y) = true) (hL : L0 = entL args ++ List.replicate (yM y - (entL args).length) (.retAddr 0))
    (h : ∀ At : JJ, (∀ pc L S M, wp (Ev d) At (fun r' M'' => r' = r ∧ M'' = M') X0 C 1000 (jmT C pc) L S M → At pc L S M) → wp (Ev d) At (fun r' M'' => r' = r ∧ M'' = M') X0 C 1000 C L0 [] M) : Ev (d + 1) y args M r M' := by
  intro l D ad cA sz
  unfold okF at hk
  simp only [Bool.and_eq_true, decide_eq_true_eq, Bool.not_eq_true', decide_eq_false_iff_not] at hk
  obtain ⟨k1, k2, k4, k5, k6⟩ := hk
  refine Met.ofWF (cc := yB y) (maxL := yM y) (ret := yR y) hF rfl ?_
  intro p e s m args' below meth c s₁ B hml hv
  obtain ⟨rfl, hsz, hP, hK, hD, hSx, hN⟩ := hv
  subst hsz
  have hts := atoms_spec (ws := wsY y) B.pre
  have hown : s.vm.findClass (yN y).cls = some m.cls := findClass_of_methodNamed B.named
  have hret := B.returns
  have hlocks := B.notSynchronized
  have hB : Bd p (rmD (d + 1)) s m (args.map (pv ad)).toArray c D ad cA y cn d (fun g => g = gh M) (fun _ => 0) (fun _ => 0) :=
    ⟨B.exec, B.bytes, hml, by rw [k2]; exact hown, fun w hw => hts w (wsY_gtb hw), hK, wsM_D hD, hSx, hN, ⟨Nat.le_refl _, Nat.le_refl _⟩, fun g _ => ⟨Nat.le_refl _, Nat.le_refl _⟩⟩
  have hR : RtW p l e (rmD (d + 1)) s m (args.map (pv ad)).toArray below meth c (MQ below (PostE D ad cA s.heap.size r M M') (args.map (pv ad)).toArray s 0 0 (AA ad s.heap.size)) D ad cA y (fun g => g = gh M) (fun _ => 0) (fun _ => 0) (fun r' M'' => r' = r ∧ M'' = M') := by
    intro r' M'' ⟨e1, e2⟩ hg pc H locs ls hP1 hS1 hcase
    subst e1; subst e2
    have hq : ∀ t : State, t.heap = H → PostE D ad cA s.heap.size r' M M'' (args.map (pv ad)).toArray s (.returned (r'.map (pv ad))) t := fun t ht => ⟨⟨rfl, by rw [ht]; exact hP1, hg⟩, hS1.F ht⟩
    rcases hcase with ⟨x, rfl, hd, hr⟩ | ⟨x, rfl, hd, hr⟩ | ⟨x, z, rfl, hd, hr⟩ | ⟨rfl, hd, hr⟩
    · rcases hr with hr | ⟨hr, hx⟩
      · exact W.zret B.exec B.bytes (hret.trans hr) rfl (fun t ht _ => hq t ht) hS1.2.2 hd
      · exact W.zret B.exec B.bytes (hret.trans hr) (by rcases hx with rfl | rfl <;> rfl) (fun t ht _ => hq t ht) hS1.2.2 hd
    · exact W.lret B.exec B.bytes (hret.trans hr) (fun t ht _ => hq t ht) hS1.2.2 hd
    · exact W.aret B.exec B.bytes (hret.trans hr) (Or.inl ⟨z, rfl⟩) (va_rf_or _) (fun t ht _ => hq t ht) hS1.2.2 hd
    · exact W.vret B.exec B.bytes (hret.trans hr) (fun t ht _ => hq t ht) hS1.2.2 hd
  have hSc : ScW false s ad X0 := fun q => by cases q
  have h11 : C11 false (Ev d) p l e (rmD (d + 1)) s m (args.map (pv ad)).toArray below meth c (MQ below (PostE D ad cA s.heap.size r M M') (args.map (pv ad)).toArray s 0 0 (AA ad s.heap.size)) D ad cA y (fun g => g = gh M) (fun _ => 0) (fun _ => 0) := fun q => by cases q
  have hE : ∀ z, z ∉ yLaw → ∀ as M v M', Ev d z as M v M' → Ev d z as M v M' := fun _ _ _ _ _ _ q => q
  have hw := h _ (step_of hB k1 hE hR hSc h11 1000)
  cases C with
  | nil => cases k6
  | cons o rc =>
    have e0 : o.1 = 0 := Option.some.inj k6
    have hA := snd hB k1 hE hR hSc h11 1000 _ k1 L0 [] M o rc rfl hw rfl s.heap []
    rw [e0] at hA
    have hle2 : (lg_sl (args.map (pv ad))).length ≤ yM y := by rw [entL_len]; exact Nat.le_of_ble_eq_true hle
    have hl := lv_entry (args.map (pv ad)) (n := yM y) hle2
    rw [lg_entry_eq]
    refine hA _ ⟨hl.1, hl.2.1, ?_, fun i v hi hv => ?_⟩ hP va_S.rf
    · rw [hL, List.length_append, List.length_replicate]
      rw [entL_len] at hle2
      omega
    · rw [hL] at hi
      rw [List.getElem?_append] at hi
      split at hi
      · have := hl.2.2 _ (entL_mem (ad := ad) args 0 i v hi hv)
        simpa using this
      · rw [List.getElem?_replicate] at hi
        split at hi
        · cases hi; cases hv
        · cases hi
theorem Ev.introQF {y cn d : Nat} {C : List Op} {args L0 : List Value} {M : Mm} {Q : Option Value → Mm → Prop} (hF : plainFor (yN y) = true) (hk : okF y cn C = true) (hle : Nat.ble (entL args).length (yM y) = true) (hL : L0 = entL args ++ List.replicate (yM y - (entL args).length) (.retAddr 0)) (hC : okL C = true)
    (h : ∀ At : JJ, StepQ d C Q At → wp (Ev d) At Q X0 C 1000 C L0 [] M) : EvQ (d + 1) y args M Q := by
  have hcl : StepQ d C Q (AtX (Ev d) C Q) := by
    intro pc L S M hw
    obtain ⟨r, M', q, f⟩ := wp_ch (E := Ev d) (Q := Q) (X := X0) hC 1000 (jmT C pc) L S M (okL_jmT hC) hw
    exact ⟨r, M', q, fun At hA => hA pc L S M (f At hA)⟩
  obtain ⟨r, M', q, f⟩ := wp_ch (E := Ev d) (Q := Q) (X := X0) hC 1000 C L0 [] M hC (h _ hcl)
  exact ⟨r, M', Ev.introF hF hk hle hL fun At step => f At step, q⟩
def k_Math_floorMod : List Op := [(0, .iload_n 0, []), (1, .iload_n 1, []), (2, .irem, []), (3, .istore_n 2, []), (4, .iload_n 0, []), (5, .iload_n 1, []), (6, .ixor, []), (7, .ifCond .ge 11, [18]), (10, .iload_n 2, []), (11, .ifCond .eq 7, [18]), (14, .iload_n 2, []), (15, .iload_n 1, []), (16, .iadd, []), (17, .ireturn, []), (18, .iload_n 2, []), (19, .ireturn, [])]
theorem pf_Math_floorMod : plainFor (yN 280) = true := by decide +kernel
set_option maxRecDepth 100000 in
theorem ok_Math_floorMod : okF 280 16 k_Math_floorMod = true := by decide +kernel
theorem e_Math_floorMod {p1 : Int32} {p2 : Int32} {d : Nat} {M : Mm} {Q : Option Value → Mm → Prop} (h : ∀ At : JJ, StepQ d k_Math_floorMod Q At → ¬ p2 = I 0 ∧ ((((p1 ^^^ p2) < (I 0)) → (((p1 - p1 / p2 * p2) = (I 0)) → Q (some (.int (p1 - p1 / p2 * p2))) M) ∧ (¬ ((p1 - p1 / p2 * p2) = (I 0)) → Q (some (.int ((p1 - p1 / p2 * p2) + p2))) M)) ∧ (¬ ((p1 ^^^ p2) < (I 0)) → Q (some (.int (p1 - p1 / p2 * p2))) M))) : EvQ (d + 1) 280 [.int p1, .int p2] M Q :=
  Ev.introQF (L0 := [.int p1, .int p2, .retAddr 0]) pf_Math_floorMod ok_Math_floorMod rfl rfl (by decide +kernel) fun At step =>
  have h := h At step
  ⟨h.1, ⟨fun c1 => (h.2.2 (Int32.not_lt.mpr c1)), fun c1 => ⟨fun c2 => ((h.2.1 (Int32.not_le.mp c1)).1 c2), fun c2 => ((h.2.1 (Int32.not_le.mp c1)).2 c2)⟩⟩⟩
theorem v_floorMod {d : Nat} {M : Mm} {a : Int} (h : -1 ≤ a ∧ a ≤ 8) : Ev (d + 1) 280 [.int (I a), .int (I 8)] M (some (.int (I (a % 8)))) M := by
  apply Ev.ofQ
  apply e_Math_floorMod
  intro At _
  have : a = -1 ∨ a = 0 ∨ a = 1 ∨ a = 2 ∨ a = 3 ∨ a = 4 ∨ a = 5 ∨ a = 6 ∨ a = 7 ∨ a = 8 := by omega
  rcases this with rfl | rfl | rfl | rfl | rfl | rfl | rfl | rfl | rfl | rfl
  all_goals exact ⟨nz_c 8 rfl, fun q => ⟨fun r => ⟨by first | rfl | exact absurd q (by decide) | exact absurd r (by decide), rfl⟩, fun r => ⟨by first | rfl | exact absurd q (by decide) | exact absurd r (by decide), rfl⟩⟩, fun q => ⟨by first | rfl | exact absurd (by decide) q, rfl⟩⟩
