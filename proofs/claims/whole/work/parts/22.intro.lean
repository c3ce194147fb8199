/-! A METHOD's CONTRACT out of its code's formula -/
def entL (vs : List Value) : List Value := match vs with
  | [] => []
  | .long x :: r => .long x :: .retAddr 0 :: entL r
  | .double x :: r => .double x :: .retAddr 0 :: entL r
  | v :: r => v :: entL r
def jmT (C : List Op) (t : Nat) : List Op := match jm C t with
  | (_, .nop, _) :: r => r
  | _ => []
def X0 : Nat × (Nat → Int32) := (0, fun _ => 0)
theorem entL_mem {ad : Nat → Nat} : ∀ (vs : List Value) (k i : Nat) (w : Value), (entL vs)[i]? = some w → isRA w = false → (k + i, pv ad w) ∈ lv_args k (vs.map (pv ad)) := by
  intro vs
  have two : ∀ (v : Value) (r : List Value), v.category = 2 → (∀ (k i : Nat) (w : Value), (entL r)[i]? = some w → isRA w = false → (k + i, pv ad w) ∈ lv_args k (r.map (pv ad))) → ∀ (k i : Nat) (w : Value), (v :: .retAddr 0 :: entL r)[i]? = some w → isRA w = false → (k + i, pv ad w) ∈ lv_args k ((v :: r).map (pv ad)) := by
    intro v r hv ih k i w hi hw
    rw [List.map_cons]
    unfold lv_args
    rw [if_pos (by rw [pv_cat]; exact hv)]
    match i, hi with
    | 0, hi => cases hi; exact List.mem_cons_self
    | 1, hi => cases hi; cases hw
    | i + 2, hi =>
      have := ih (k + 2) i w hi hw
      rw [show k + 2 + i = k + (i + 2) by omega] at this
      exact List.mem_cons_of_mem _ this
  have one : ∀ (v : Value) (r : List Value), ¬ v.category = 2 → (∀ (k i : Nat) (w : Value), (entL r)[i]? = some w → isRA w = false → (k + i, pv ad w) ∈ lv_args k (r.map (pv ad))) → ∀ (k i : Nat) (w : Value), (v :: entL r)[i]? = some w → isRA w = false → (k + i, pv ad w) ∈ lv_args k ((v :: r).map (pv ad)) := by
    intro v r hv ih k i w hi hw
    rw [List.map_cons]
    unfold lv_args
    rw [if_neg (by rw [pv_cat]; exact hv)]
    match i, hi with
    | 0, hi => cases hi; exact List.mem_cons_self
    | i + 1, hi =>
      have := ih (k + 1) i w hi hw
      rw [show k + 1 + i = k + (i + 1) by omega] at this
      exact List.mem_cons_of_mem _ this
  induction vs with
  | nil => intro k i w h; simp [entL] at h
  | cons v r ih =>
    cases v with
    | long x => exact two _ r rfl ih
    | double x => exact two _ r rfl ih
    | int x => exact one _ r (by simp [Value.category]) ih
    | float x => exact one _ r (by simp [Value.category]) ih
    | null => exact one _ r (by simp [Value.category]) ih
    | ref x => exact one _ r (by simp [Value.category]) ih
    | retAddr x => exact one _ r (by simp [Value.category]) ih
theorem entL_len {ad : Nat → Nat} : ∀ vs : List Value, (lg_sl (vs.map (pv ad))).length = (entL vs).length := by
  intro vs
  have two : ∀ (v : Value) (r : List Value), v.category = 2 → (lg_sl (r.map (pv ad))).length = (entL r).length → (lg_sl ((v :: r).map (pv ad))).length = (entL r).length + 2 := by
    intro v r hv ih
    unfold lg_sl at ih ⊢
    rw [List.map_cons, List.flatMap_cons, if_pos (by rw [pv_cat]; exact hv), List.length_append, ih]
    simp
    omega
  have one : ∀ (v : Value) (r : List Value), ¬ v.category = 2 → (lg_sl (r.map (pv ad))).length = (entL r).length → (lg_sl ((v :: r).map (pv ad))).length = (entL r).length + 1 := by
    intro v r hv ih
    unfold lg_sl at ih ⊢
    rw [List.map_cons, List.flatMap_cons, if_neg (by rw [pv_cat]; exact hv), List.length_append, ih]
    simp
    omega
  induction vs with
  | nil => rfl
  | cons v r ih =>
    cases v with
    | long x => exact two _ r rfl ih
    | double x => exact two _ r rfl ih
    | int x => exact one _ r (by simp [Value.category]) ih
    | float x => exact one _ r (by simp [Value.category]) ih
    | null => exact one _ r (by simp [Value.category]) ih
    | ref x => exact one _ r (by simp [Value.category]) ih
    | retAddr x => exact one _ r (by simp [Value.category]) ih
theorem step_of {p : Program} {l : Launch} {e : Env} {R : Room} {s : State} {m : MethodId} {args : Array Value} {below : List Frame} {meth : Method} {c : Code} {Q : State → Prop} {D : va_G} {ad : Nat → Nat} {cA : Nat → ClassId} {y cn d : Nat} {G : Nat → Prop} {cf sf : Nat → Nat}
    (B : Bd p R s m args c D ad cA y cn d G cf sf) {Rt : Option Value → Mm → Prop} {X : Nat × (Nat → Int32)} {E : EE} {lawf : Bool} {C : List Op} (hC : chk lawf y cn C = true) (hE : ∀ z, z ∉ yLaw → ∀ as M v M', E z as M v M' → Ev d z as M v M') (hR : RtW p l e R s m args below meth c Q D ad cA y G cf sf Rt) (hSc : ScW lawf s ad X) (h11 : C11 lawf E p l e R s m args below meth c Q D ad cA y G cf sf)
    (n pc : Nat) (L S : List Value) (M : Mm) (h : wp E (AtW p l e R s m args below meth c Q D ad cA y G cf sf) Rt X C n (jmT C pc) L S M) : AtW p l e R s m args below meth c Q D ad cA y G cf sf pc L S M := by
  unfold jmT at h
  obtain ⟨q1, q2⟩ := jm_chk (t := pc) hC
  split at h
  · rename_i pc0 i0 r hj
    have e0 : pc0 = pc := q2 _ _ hj
    subst e0
    rw [hj] at q1
    unfold chk at q1
    rw [Bool.and_eq_true] at q1
    obtain ⟨qr, q3⟩ := q1
    have q3 : hdP r = some pc0 := of_decide_eq_true q3
    cases r with
    | nil => cases q3
    | cons o r =>
      have e1 : o.1 = pc0 := Option.some.inj q3
      rw [← e1]
      exact snd B hC hE hR hSc h11 n _ qr L S M o r rfl h
  · cases n <;> exact h.elim
theorem Ev.intro {y cn d : Nat} {C : List Op} {args L0 : List Value} {M M' : Mm} {r : Option Value} (hk : okM y cn C = true) (hle : Nat.ble (entL args).length (yM y) = true) (hL : L0 = entL args ++ List.replicate (yM y - (entL args).length) (.retAddr 0))
    (h : ∀ At : JJ, (∀ pc L S M, wp (Ev d) At (fun r' M'' => r' = r ∧ M'' = M') X0 C 1000 (jmT C pc) L S M → At pc L S M) → wp (Ev d) At (fun r' M'' => r' = r ∧ M'' = M') X0 C 1000 C L0 [] M) : Ev (d + 1) y args M r M' := by
  intro l D ad cA sz
  unfold okM at hk
  simp only [Bool.and_eq_true, decide_eq_true_eq, Bool.not_eq_true', decide_eq_false_iff_not] at hk
  obtain ⟨k1, k2, k3, k4, k5, k6⟩ := hk
  refine Met.ofW (cc := yB y) (maxL := yM y) (ret := yR y) k3 rfl ?_
  intro p e s m args' below meth c s₁ B hml hv
  obtain ⟨rfl, hsz, hP, hK, hD, hSx, hN⟩ := hv
  subst hsz
  have hts := atoms_spec (ws := wsY y) B.pre
  have hown : s.vm.findClass (yN y).cls = some m.cls := findClass_of_methodNamed B.named
  have hret := B.returns
  have hlocks := B.notSynchronized
  have hB : Bd p (rmD (d + 1)) s m (args.map (pv ad)).toArray c D ad cA y cn d (fun g => g = gh M) (fun _ => 0) (fun _ => 0) :=
    ⟨B.exec, B.bytes, hml, by rw [k2]; exact hown, fun w hw => hts w (wsY_gtb hw), hK, wsM_D hD, hSx, hN, ⟨Nat.le_refl _, Nat.le_refl _⟩, fun g _ => ⟨Nat.le_refl _, Nat.le_refl _⟩⟩
  have hR : RtW p l e (rmD (d + 1)) s m (args.map (pv ad)).toArray below meth c (MQ below (PostE D ad cA s.heap.size r M M') (args.map (pv ad)).toArray s 0 0 (AA ad s.heap.size)) D ad cA y (fun g => g = gh M) (fun _ => 0) (fun _ => 0) (fun r' M'' => r' = r ∧ M'' = M') := by
    intro r' M'' ⟨e1, e2⟩ hg pc H locs ls hP1 hS1 hcase
    subst e1; subst e2
    have hq : ∀ t : State, t.heap = H → PostE D ad cA s.heap.size r' M M'' (args.map (pv ad)).toArray s (.returned (r'.map (pv ad))) t := fun t ht => ⟨⟨rfl, by rw [ht]; exact hP1, hg⟩, hS1.F ht⟩
    rcases hcase with ⟨x, rfl, hd, hr⟩ | ⟨x, rfl, hd, hr⟩ | ⟨x, z, rfl, hd, hr⟩ | ⟨rfl, hd, hr⟩
    · rcases hr with hr | ⟨hr, hx⟩
      · exact W.zret B.exec B.bytes (hret.trans hr) rfl (fun t ht _ => hq t ht) hS1.2.2 hd
      · exact W.zret B.exec B.bytes (hret.trans hr) (by rcases hx with rfl | rfl <;> rfl) (fun t ht _ => hq t ht) hS1.2.2 hd
    · exact W.lret B.exec B.bytes (hret.trans hr) (fun t ht _ => hq t ht) hS1.2.2 hd
    · exact W.aret B.exec B.bytes (hret.trans hr) (Or.inl ⟨z, rfl⟩) (va_rf_or _) (fun t ht _ => hq t ht) hS1.2.2 hd
    · exact W.vret B.exec B.bytes (hret.trans hr) (fun t ht _ => hq t ht) hS1.2.2 hd
  have hSc : ScW false s ad X0 := fun q => by cases q
  have h11 : C11 false (Ev d) p l e (rmD (d + 1)) s m (args.map (pv ad)).toArray below meth c (MQ below (PostE D ad cA s.heap.size r M M') (args.map (pv ad)).toArray s 0 0 (AA ad s.heap.size)) D ad cA y (fun g => g = gh M) (fun _ => 0) (fun _ => 0) := fun q => by cases q
  have hE : ∀ z, z ∉ yLaw → ∀ as M v M', Ev d z as M v M' → Ev d z as M v M' := fun _ _ _ _ _ _ q => q
  have hw := h _ (step_of hB k1 hE hR hSc h11 1000)
  cases C with
  | nil => cases k6
  | cons o rc =>
    have e0 : o.1 = 0 := Option.some.inj k6
    have hA := snd hB k1 hE hR hSc h11 1000 _ k1 L0 [] M o rc rfl hw rfl s.heap []
    rw [e0] at hA
    have hle2 : (lg_sl (args.map (pv ad))).length ≤ yM y := by rw [entL_len]; exact Nat.le_of_ble_eq_true hle
    have hl := lv_entry (args.map (pv ad)) (n := yM y) hle2
    rw [lg_entry_eq]
    refine hA _ ⟨hl.1, hl.2.1, ?_, fun i v hi hv => ?_⟩ hP va_S.rf
    · rw [hL, List.length_append, List.length_replicate]
      rw [entL_len] at hle2
      omega
    · rw [hL] at hi
      rw [List.getElem?_append] at hi
      split at hi
      · have := hl.2.2 _ (entL_mem (ad := ad) args 0 i v hi hv)
        simpa using this
      · rw [List.getElem?_replicate] at hi
        split at hi
        · cases hi; cases hv
        · cases hi
