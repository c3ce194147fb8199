section SN7
variable {p : Program} {l : Launch} {e : Env} {R : Room} {s : State} {m : MethodId} {args : Array Value} {below : List Frame} {meth : Method} {c : Code} {Q : State → Prop}
variable {D : va_G} {ad : Nat → Nat} {cA : Nat → ClassId} {y cn d : Nat} {G : Nat → Prop} {cf sf : Nat → Nat}
/-- how the method's end is met -/
def RtW (p : Program) (l : Launch) (e : Env) (R : Room) (s : State) (m : MethodId) (args : Array Value) (below : List Frame) (meth : Method) (c : Code) (Q : State → Prop) (D9 : va_G) (ad : Nat → Nat) (cA : Nat → ClassId) (y : Nat) (G : Nat → Prop) (cf sf : Nat → Nat) (Rt : Option Value → Mm → Prop) : Prop :=
  ∀ (r : Option Value) (M : Mm), Rt r M → G (gh M) → ∀ (pc : Nat) (H : Heap) (locs : List Loc) (ls : Array Slot), va_P D9 vwCl (wsM ad cA M) H → va_S (AA ad s.heap.size) s.heap H locs →
    ((∃ x, r = some (.int x) ∧ decode (yB y) pc = .ok (.ireturn, 1) ∧ (yR y = some .int ∨ (yR y = some .boolean ∧ (x = I 0 ∨ x = I 1)))) ∨ (∃ x, r = some (.long x) ∧ decode (yB y) pc = .ok (.lreturn, 1) ∧ yR y = some .long) ∨ (∃ x z, r = some (.ref x) ∧ decode (yB y) pc = .ok (.areturn, 1) ∧ yR y = some (.object z)) ∨ (r = none ∧ decode (yB y) pc = .ok (.return_, 1) ∧ yR y = none)) →
    W p l e R s m args below meth c H locs (cf (gh M)) (sf (gh M)) Q (F0 m pc ls (r.map (pv ad)).toList)

variable {pc : Nat} {L S : List Value} {M : Mm}
/-- the script, where the law reads it -/
def ScW (lawf : Bool) (s : State) (ad : Nat → Nat) (X : Nat × (Nat → Int32)) : Prop := lawf = true → va_X (ad 501) X.1 X.2 s s.heap ∧ ad 501 < s.heap.size ∧ ¬ AA ad s.heap.size (ad 501)
/-- the law's calls of its own methods, which catch -/
def C11 (lawf : Bool) (E : EE) (p : Program) (l : Launch) (e : Env) (R : Room) (s : State) (m : MethodId) (args : Array Value) (below : List Frame) (meth : Method) (c : Code) (Q : State → Prop) (D : va_G) (ad : Nat → Nat) (cA : Nat → ClassId) (y : Nat) (G : Nat → Prop) (cf sf : Nat → Nat) : Prop := lawf = true → ∀ (pc idx z n rk : Nat) (t : List Nat) (L S : List Value) (M : Mm) (K : List Value → Mm → Prop), decode (yB y) pc = .ok (.invokestatic idx, 3) → (idx, 11 :: z :: n :: rk :: t) ∈ law11 → (∀ S M, K S M → AtW p l e R s m args below meth c Q D ad cA y G cf sf (pc + 3) L S M) → (takeS n S [] fun as r => cond (Nat.ble r.length 4) (wpInv E z as r M K rk) False) → AtW p l e R s m args below meth c Q D ad cA y G cf sf pc L S M
theorem link0 {cn idx ci k : Nat} {t ps : List Nat} (h : linkOK cn (idx, 0, ci :: k :: t, ps) = true) : (ci = 0 ∧ k = 0 ∧ (∃ t', t = 6 :: t') ∧ Cond.fieldLink (Rn cn) idx RX11 "packed" "J" ∈ gtb) ∨
    (Cond.fieldLink (Rn cn) idx (cq ci).1 ((cq ci).2.1 k).2.1 ((cq ci).2.1 k).2.2.1 ∈ gtb ∧ k < (cq ci).2.2 ∧ ci < 12 ∧ (FT.getD ci []).getD k [] = t ∧ tagOK ci k t = true ∧ ((cq ci).2.1 k).1 = (cq ci).1) := by
  unfold linkOK at h
  dsimp only at h
  split at h
  · rename_i heq
    injection heq with e1 heq
    injection heq with e2 heq
    exact Or.inl ⟨e1, e2, ⟨_, heq⟩, inP_gtb h⟩
  · rename_i heq
    injection heq with e1 heq
    injection heq with e2 heq
    subst e1; subst e2; subst heq
    simp only [Bool.and_eq_true, decide_eq_true_eq] at h
    obtain ⟨⟨⟨⟨⟨k1, k2⟩, k3⟩, k4⟩, k5⟩, k6⟩ := h
    exact Or.inr ⟨inP_gtb k1, Nat.le_of_ble_eq_true k2, Nat.le_of_ble_eq_true k3, k4, k5, k6⟩
  all_goals simp_all
theorem get_w (B : Bd p R s m args c D ad cA y cn d G cf sf) {K : List Value → List Value → Mm → Prop} {idx a : Nat} {inf ps : List Nat} {r : List Value} (hd : decode (yB y) pc = .ok (.getfield idx, 3)) (hk : linkOK cn (idx, 0, inf, ps) = true) (ih : ∀ L S M, K L S M → AtW p l e R s m args below meth c Q D ad cA y G cf sf (pc + 3) L S M)
    (h : match inf with | ci :: k :: t => wpGet a ci k M (fun v => K L (v :: r) M) t | _ => False) : AtW p l e R s m args below meth c Q D ad cA y G cf sf pc L (.ref a :: r) M := by
  match inf, h with
  | ci :: k :: t, h =>
    rcases link0 hk with ⟨rfl, rfl, ⟨t', rfl⟩, w⟩ | ⟨k1, k2, k3, k4, k5, k6⟩
    · obtain ⟨ha, h⟩ := h
      exact o_pack B hd w ha ih h
    · match t, h with
      | 0 :: t, h => exact o_get B hd k1 k2 k3 k4 k6 h.1 rfl ih h.2
      | 5 :: t, h => exact o_get B hd k1 k2 k3 k4 k6 h.1 rfl ih h.2
      | 1 :: t, h => exact o_get B hd k1 k2 k3 k4 k6 h.1 rfl ih h.2
      | 2 :: t, h => exact o_get B hd k1 k2 k3 k4 k6 h.1 rfl ih h.2
      | 3 :: o :: t, h => exact o_get B hd k1 k2 k3 k4 k6 h.1 (pv_ref (by have := Nat.le_of_ble_eq_true k5; omega)) ih h.2
      | 4 :: o :: t, h => exact o_get B hd k1 k2 k3 k4 k6 h.1 (pv_ref (by have := Nat.le_of_ble_eq_true k5; omega)) ih h.2
      | 6 :: t, h => cases k5
theorem fv_ne {M' : Mm} {a k j : Nat} {t : List Nat} (hj : j ≠ k) (h1 : ∀ i, i ≠ k → M'.1 a i = M.1 a i) (h2 : ∀ i, i ≠ k → M'.2.1 a i = M.2.1 a i) (h3 : ∀ i, i ≠ k → M'.2.2 a i = M.2.2 a i) : fv ad M' a j t = fv ad M a j t := fv_of (h1 j hj) (h2 j hj) (h3 j hj)
theorem upf_ne {α : Type} {f : Nat → α} {k j : Nat} {v : α} (h : j ≠ k) : upf f k v j = f j := if_neg h
theorem upf_eq {α : Type} {f : Nat → α} {k : Nat} {v : α} : upf f k v k = v := if_pos rfl
theorem put_w (B : Bd p R s m args c D ad cA y cn d G cf sf) {K : List Value → List Value → Mm → Prop} {idx : Nat} {inf ps : List Nat} (hd : decode (yB y) pc = .ok (.putfield idx, 3)) (hk : linkOK cn (idx, 0, inf, ps) = true) (ih : ∀ L S M, K L S M → AtW p l e R s m args below meth c Q D ad cA y G cf sf (pc + 3) L S M)
    (h : match inf with | ci :: k :: t => wpPut S ci k M (fun r M' => K L r M') t | _ => False) : AtW p l e R s m args below meth c Q D ad cA y G cf sf pc L S M := by
  match inf, h with
  | ci :: k :: t, h =>
    rcases link0 hk with ⟨rfl, rfl, ⟨t', rfl⟩, w⟩ | ⟨k1, k2, k3, k4, k5, k6⟩
    · exact h.elim
    · have hfin : ∀ b : Bool, (b && !((cq ci).2.1 k).2.2.2) = true → b = true ∧ ((cq ci).2.1 k).2.2.2 = false := fun b q => by
        rw [Bool.and_eq_true] at q
        exact ⟨q.1, by simpa using q.2⟩
      match t, h with
      | 0 :: t, h =>
        obtain ⟨v, r1, rfl, h1⟩ := popI_e h
        obtain ⟨a, r, rfl, ha, h2⟩ := popA_e h1
        obtain ⟨f1, f2⟩ := hfin _ k5
        have f1 := of_decide_eq_true f1
        exact o_put B hd k1 k2 k3 k6 f2 ha (M' := sI M a k v) (v := .int v) (by rw [k4]; show _ = Value.int ((sI M a k v).1 a k); rw [sI_at]; show _ = Value.int (upf (M.1 a) k v k); rw [upf_eq]; rfl) (fun j hj => fv_ne hj (fun i hi => by rw [sI_at]; exact upf_ne hi) (fun _ _ => rfl) (fun _ _ => rfl)) (fun b hb => ent_sI hb) rfl (by rw [f1]; rfl) (by rw [f1]; rfl) ih h2
      | 5 :: t, h =>
        obtain ⟨v, r1, rfl, h1⟩ := popI_e h
        obtain ⟨a, r, rfl, ha, hv, h2⟩ := popA_e h1
        obtain ⟨f1, f2⟩ := hfin _ k5
        have f1 := of_decide_eq_true f1
        exact o_put B hd k1 k2 k3 k6 f2 ha (M' := sI M a k v) (v := .int v) (by rw [k4]; show _ = Value.int ((sI M a k v).1 a k); rw [sI_at]; show _ = Value.int (upf (M.1 a) k v k); rw [upf_eq]; rfl) (fun j hj => fv_ne hj (fun i hi => by rw [sI_at]; exact upf_ne hi) (fun _ _ => rfl) (fun _ _ => rfl)) (fun b hb => ent_sI hb) rfl (by rw [f1]; rcases hv with rfl | rfl <;> rfl) (by rw [f1]; rcases hv with rfl | rfl <;> rfl) ih h2
      | 1 :: t, h =>
        obtain ⟨v, r1, rfl, h1⟩ := popL_e h
        obtain ⟨a, r, rfl, ha, h2⟩ := popA_e h1
        obtain ⟨f1, f2⟩ := hfin _ k5
        have f1 := of_decide_eq_true f1
        exact o_put B hd k1 k2 k3 k6 f2 ha (M' := sL M a k v) (v := .long v) (by rw [k4]; show _ = Value.long ((sL M a k v).2.1 a k); rw [sL_at]; show _ = Value.long (upf (M.2.1 a) k v k); rw [upf_eq]; rfl) (fun j hj => fv_ne hj (fun _ _ => rfl) (fun i hi => by rw [sL_at]; exact upf_ne hi) (fun _ _ => rfl)) (fun b hb => ent_sL hb) rfl (by rw [f1]; rfl) (by rw [f1]; rfl) ih h2
      | 2 :: t, h =>
        obtain ⟨v, r1, rfl, h1⟩ := popA_e h
        obtain ⟨a, r, rfl, ha, h2⟩ := popA_e h1
        obtain ⟨f1, f2⟩ := hfin _ k5
        have hz : ∃ z, tyq ci k = .object z := by
          split at f1
          · exact ⟨_, by assumption⟩
          · cases f1
        obtain ⟨z, f1⟩ := hz
        have hv : pv ad (.ref v) = .null ∨ ∃ q, pv ad (.ref v) = .ref q := by
          by_cases q : v = 0
          · subst q; exact Or.inl rfl
          · exact Or.inr ⟨_, pv_ref q⟩
        exact o_put B hd k1 k2 k3 k6 f2 ha (M' := sR M a k v) (v := .ref v) (by rw [k4]; show _ = va_rf (po ad ((sR M a k v).2.2 a k)); rw [sR_at, upf_eq]; rfl) (fun j hj => fv_ne hj (fun _ _ => rfl) (fun _ _ => rfl) (fun i hi => by rw [sR_at]; exact upf_ne hi)) (fun b hb => ent_sR hb) (gh_sR (by omega)) (by rw [f1]; rcases hv with q | ⟨q1, q⟩ <;> rw [q] <;> rfl) (by rw [f1]; rcases hv with q | ⟨q1, q⟩ <;> rw [q] <;> rfl) ih h2
theorem gets_w (B : Bd p R s m args c D ad cA y cn d G cf sf) {K : List Value → List Value → Mm → Prop} {idx b : Nat} {ps : List Nat} (hd : decode (yB y) pc = .ok (.getstatic idx, 3)) (hk : linkOK cn (idx, 1, [b], ps) = true) (ih : ∀ L S M, K L S M → AtW p l e R s m args below meth c Q D ad cA y G cf sf (pc + 3) L S M)
    (h : K L (.ref b :: S) M) : AtW p l e R s m args below meth c Q D ad cA y G cf sf pc L S M := by
  have hk : (if b = 650 then inP (ps.getD 0 0) (.fieldLink (Rn cn) idx RX0 "$SwitchMap$BagsRiver$Word" "[I") else if b = 651 then inP (ps.getD 0 0) (.fieldLink (Rn cn) idx RX11 "ALL" "[LBagsRiver$Word;") else Nat.ble 600 b && Nat.blt b 623 && inP (ps.getD 0 0) (.fieldLink (Rn cn) idx RX11 (wordN.getD (b - 600) "") "LBagsRiver$Word;")) = true := hk
  by_cases h1 : b = 650
  · subst h1
    exact o_gets B hd (inP_gtb hk) B.2.2.2.2.2.2.2.1.2.2.2.2.1 (by decide) ih h
  · rw [if_neg h1] at hk
    by_cases h2 : b = 651
    · subst h2
      exact o_gets B hd (inP_gtb hk) B.2.2.2.2.2.2.2.1.2.2.1 (by decide) ih h
    · rw [if_neg h2] at hk
      simp only [Bool.and_eq_true] at hk
      obtain ⟨⟨k1, k2⟩, k3⟩ := hk
      have k1 := Nat.le_of_ble_eq_true k1
      have k2 := Nat.le_of_ble_eq_true k2
      have hz := (B.2.2.2.2.2.2.2.1.1.1 (b - 600) (show b - 600 < 23 by omega)).1
      dsimp only at hz
      rw [show 600 + (b - 600) = b by omega] at hz
      exact o_gets B hd (inP_gtb k3) hz (by omega) ih h
theorem iald_w (B : Bd p R s m args c D ad cA y cn d G cf sf) {K : List Value → List Value → Mm → Prop} {inf : List Nat} {lawf : Bool} {X : Nat × (Nat → Int32)} (hd : decode (yB y) pc = .ok (.iaload, 1)) (hs : sideI lawf y cn pc .iaload inf = true) (hSc : ScW lawf s ad X) (ih : ∀ L S M, K L S M → AtW p l e R s m args below meth c Q D ad cA y G cf sf (pc + 1) L S M)
    (h : wpAld X S M (fun r => K L r M) inf) : AtW p l e R s m args below meth c Q D ad cA y G cf sf pc L S M := by
  match inf, h with
  | [], h => exact o_iald B hd ih h
  | 1 :: t, h => exact o_ialdS B hd ih h
  | 2 :: t, h =>
    obtain ⟨x1, x2, x3⟩ := hSc hs
    obtain ⟨i, r1, rfl, h1⟩ := popI_e h
    obtain ⟨a, r, rfl, rfl, hi, h2⟩ := popA_e h1
    intro hg H locs ls hl hP hS
    have h3 := ih _ _ _ h2 hg H locs ls hl hP hS
    rw [List.map_cons, List.map_cons, pv_ref (by decide)]
    exact va_sld B.1 B.2.1 x1 x2 x3 hS hi hd h3
theorem alen_w (B : Bd p R s m args c D ad cA y cn d G cf sf) {K : List Value → List Value → Mm → Prop} {inf : List Nat} {lawf : Bool} {X : Nat × (Nat → Int32)} {a : Nat} {r : List Value} (hd : decode (yB y) pc = .ok (.arraylength, 1)) (hs : sideI lawf y cn pc .arraylength inf = true) (hSc : ScW lawf s ad X) (ih : ∀ L S M, K L S M → AtW p l e R s m args below meth c Q D ad cA y G cf sf (pc + 1) L S M)
    (h : wpAlen X a (fun v => K L (.int v :: r) M) inf) : AtW p l e R s m args below meth c Q D ad cA y G cf sf pc L (.ref a :: r) M := by
  match inf, h with
  | [], h => exact o_alen B hd ih h.1 h.2
  | 2 :: t, h =>
    obtain ⟨x1, x2, x3⟩ := hSc hs
    obtain ⟨rfl, h2⟩ := h
    intro hg H locs ls hl hP hS
    have h3 := ih _ _ _ h2 hg H locs ls hl hP hS
    rw [List.map_cons, pv_ref (by decide)]
    exact va_slen B.1 B.2.1 x1 x2 x3 hS hd h3
  | 3 :: t, h =>
    obtain ⟨rfl, h2⟩ := h
    exact o_alenA B hd ih h2
theorem aald_w (B : Bd p R s m args c D ad cA y cn d G cf sf) {K : List Value → List Value → Mm → Prop} {inf : List Nat} {lawf : Bool} (hd : decode (yB y) pc = .ok (.aaload, 1)) (hs : sideI lawf y cn pc .aaload inf = true) (ih : ∀ L S M, K L S M → AtW p l e R s m args below meth c Q D ad cA y G cf sf (pc + 1) L S M)
    (h : wpAald S M (fun r => K L r M) inf) : AtW p l e R s m args below meth c Q D ad cA y G cf sf pc L S M := by
  match inf, h with
  | [], h => exact o_aald B hd ih h
  | 1 :: b :: base :: stride :: t, h =>
    have hs : (Nat.ble 105 (lay b) && (Nat.blt (lay b) 108 && (decide (cbs b = (base, stride)) && Nat.blt 0 base))) = true := hs
    simp only [Bool.and_eq_true, decide_eq_true_eq] at hs
    exact o_aaldC B hd ⟨Nat.le_of_ble_eq_true hs.1, Nat.le_of_ble_eq_true hs.2.1⟩ hs.2.2.1 (Nat.le_of_ble_eq_true hs.2.2.2) ih h
  | 2 :: t, h => exact o_aaldA B hd ih h
theorem iret_w {Rt : Option Value → Mm → Prop} {inf : List Nat} {lawf : Bool} {x : Int32} (hR : RtW p l e R s m args below meth c Q D ad cA y G cf sf Rt) (hd : decode (yB y) pc = .ok (.ireturn, 1)) (hs : sideI lawf y cn pc .ireturn inf = true) (h : wpRet Rt M x inf) : AtW p l e R s m args below meth c Q D ad cA y G cf sf pc L [.int x] M := by
  intro hg H locs ls hl hP hS
  match inf, h with
  | [], h => exact hR _ _ h hg _ _ _ _ hP hS (Or.inl ⟨x, rfl, hd, Or.inl (of_decide_eq_true hs)⟩)
  | a :: t, h => exact hR _ _ h.2 hg _ _ _ _ hP hS (Or.inl ⟨x, rfl, hd, Or.inr ⟨of_decide_eq_true hs, h.1⟩⟩)
theorem stat_w (B : Bd p R s m args c D ad cA y cn d G cf sf) {K : List Value → Mm → Prop} {idx : Nat} {inf : List Nat} {lawf : Bool} {E : EE} (hd : decode (yB y) pc = .ok (.invokestatic idx, 3)) (hs : sideI lawf y cn pc (.invokestatic idx) inf = true) (hE : ∀ z, z ∉ yLaw → ∀ as M v M', E z as M v M' → Ev d z as M v M') (h11 : C11 lawf E p l e R s m args below meth c Q D ad cA y G cf sf) (ih : ∀ S M, K S M → AtW p l e R s m args below meth c Q D ad cA y G cf sf (pc + 3) L S M)
    (h : wpCall E S M K inf) : AtW p l e R s m args below meth c Q D ad cA y G cf sf pc L S M := by
  match inf, h with
  | 0 :: z :: n :: rk :: t, h =>
    obtain ⟨ps, hk⟩ := inCp_e (show inCp cn 2 idx (0 :: z :: n :: rk :: t) = true from hs)
    have hk : (decide (z ∈ yS) && Nat.blt z 281 && !decide (z ∈ yLaw) && parN (yN z) n && (decide ((cn, idx, z) ∈ nestQ) || inP (ps.getD 0 0) (.methodLink (Rn cn) idx (yN z)))) = true := hk
    simp only [Bool.and_eq_true, Bool.or_eq_true, decide_eq_true_eq, Bool.not_eq_true', decide_eq_false_iff_not] at hk
    obtain ⟨⟨⟨⟨q1, q2⟩, q3⟩, q4⟩, q5⟩ := hk
    exact o_callS B hd (Nat.le_of_ble_eq_true q2) q3 q1 q4 (q5.imp id inP_gtb) (hE z q3) ih h
  | 7 :: t, h =>
    obtain ⟨ps, hk⟩ := inCp_e (show inCp cn 2 idx (7 :: t) = true from hs)
    have hk : (inP (ps.getD 0 0) (.methodLink (Rn cn) idx Lib.Math.max.name) && inP (ps.getD 1 0) (.static Lib.Math.max.name) && inP (ps.getD 2 0) (.initialized "java/lang/Math") && inP (ps.getD 3 0) (.code Lib.Math.max.name Lib.Math.max.code 2 (some .int))) = true := hk
    simp only [Bool.and_eq_true] at hk
    exact o_mmax B hd (inP_gtb hk.1.1.1) (inP_gtb hk.1.1.2) (inP_gtb hk.1.2) (inP_gtb hk.2) ih h
  | 6 :: t, h =>
    obtain ⟨ps, hk⟩ := inCp_e (show inCp cn 2 idx (6 :: t) = true from hs)
    have hk : (inP (ps.getD 0 0) (.methodLink (Rn cn) idx Lib.Math.min.name) && inP (ps.getD 1 0) (.static Lib.Math.min.name) && inP (ps.getD 2 0) (.initialized "java/lang/Math") && inP (ps.getD 3 0) (.code Lib.Math.min.name Lib.Math.min.code 2 (some .int))) = true := hk
    simp only [Bool.and_eq_true] at hk
    exact o_mmin B hd (inP_gtb hk.1.1.1) (inP_gtb hk.1.1.2) (inP_gtb hk.1.2) (inP_gtb hk.2) ih h
  | 8 :: t, h =>
    obtain ⟨ps, hk⟩ := inCp_e (show inCp cn 2 idx (8 :: t) = true from hs)
    have hk : (inP (ps.getD 0 0) (.methodLink (Rn cn) idx arraycopyName) && inP (ps.getD 1 0) (.native arraycopyName) && inP (ps.getD 2 0) (.static arraycopyName) && inP (ps.getD 3 0) (.initialized "java/lang/System")) = true := hk
    simp only [Bool.and_eq_true] at hk
    exact o_cpyI B hd (inP_gtb hk.1.1.1) (inP_gtb hk.1.1.2) (inP_gtb hk.1.2) (inP_gtb hk.2) ih h
  | 9 :: t, h =>
    obtain ⟨ps, hk⟩ := inCp_e (show inCp cn 2 idx (9 :: t) = true from hs)
    have hk : (inP (ps.getD 0 0) (.methodLink (Rn cn) idx arraycopyName) && inP (ps.getD 1 0) (.native arraycopyName) && inP (ps.getD 2 0) (.static arraycopyName) && inP (ps.getD 3 0) (.initialized "java/lang/System")) = true := hk
    simp only [Bool.and_eq_true] at hk
    exact o_cpyL B hd (inP_gtb hk.1.1.1) (inP_gtb hk.1.1.2) (inP_gtb hk.1.2) (inP_gtb hk.2) ih h
  | 11 :: z :: n :: rk :: t, h =>
    have hs : (lawf && decide ((idx, 11 :: z :: n :: rk :: t) ∈ law11)) = true := hs
    rw [Bool.and_eq_true, decide_eq_true_eq] at hs
    exact h11 hs.1 pc idx z n rk t L S M K hd hs.2 ih h
  | 1 :: t, _ => cases hs
  | 10 :: t, _ => cases hs
theorem virt_w (B : Bd p R s m args c D ad cA y cn d G cf sf) {K : List Value → Mm → Prop} {idx : Nat} {inf : List Nat} {lawf : Bool} {E : EE} (hd : decode (yB y) pc = .ok (.invokevirtual idx, 3)) (hs : sideI lawf y cn pc (.invokevirtual idx) inf = true) (hE : ∀ z, z ∉ yLaw → ∀ as M v M', E z as M v M' → Ev d z as M v M') (ih : ∀ S M, K S M → AtW p l e R s m args below meth c Q D ad cA y G cf sf (pc + 3) L S M)
    (h : wpCall E S M K inf) : AtW p l e R s m args below meth c Q D ad cA y G cf sf pc L S M := by
  match inf, h with
  | 1 :: z :: n :: rk :: cl :: t, h =>
    obtain ⟨ps, hk⟩ := inCp_e (show inCp cn 2 idx (1 :: z :: n :: rk :: cl :: t) = true from hs)
    have hk : (!decide (z ∈ yS) && Nat.blt z 281 && !decide (z ∈ yLaw) && parN (yN z) n && inP (ps.getD 0 0) (.methodLink (Rn cn) idx (yN z)) && decide ((yN z).cls = (cq (cl - 1)).1) && Nat.ble 1 cl && Nat.ble cl 12) = true := hk
    simp only [Bool.and_eq_true, decide_eq_true_eq, Bool.not_eq_true', decide_eq_false_iff_not] at hk
    obtain ⟨⟨⟨⟨⟨⟨⟨q1, q2⟩, q3⟩, q4⟩, q5⟩, q6⟩, q7⟩, q8⟩ := hk
    exact o_callV B hd (Nat.le_of_ble_eq_true q2) q3 q1 q4 (inP_gtb q5) q6 ⟨Nat.le_of_ble_eq_true q7, Nat.le_of_ble_eq_true q8⟩ (hE z q3) ih h
  | 10 :: t, h =>
    obtain ⟨ps, hk⟩ := inCp_e (show inCp cn 2 idx (10 :: t) = true from hs)
    have hk : (inP (ps.getD 0 0) (.methodLink (Rn cn) idx xOrd) && inP (ps.getD 1 0) (.sameMethod xOrd.cls "java/lang/Enum" xOrd.name xOrd.desc) && inP (ps.getD 2 0) (.selects RX11 xOrd yOrd) && inP (ps.getD 3 0) (.instanceMethod yOrd) && inP (ps.getD 4 0) (.initialized yOrd.cls) && inP (ps.getD 5 0) (.code yOrd cJx29ce0_ordinal_8abf5 1 (some .int)) && inP (ps.getD 6 0) (.fieldLink RJx29ce0 7 "java/lang/Enum" "ordinal" "I")) = true := hk
    simp only [Bool.and_eq_true] at hk
    exact o_ord B hd (inP_gtb hk.1.1.1.1.1.1) (inP_gtb hk.1.1.1.1.1.2) (inP_gtb hk.1.1.1.1.2) (inP_gtb hk.1.1.1.2) (inP_gtb hk.1.1.2) (inP_gtb hk.1.2) (inP_gtb hk.2) ih h
  | 0 :: t, _ => cases hs
  | 7 :: t, _ => cases hs
  | 6 :: t, _ => cases hs
  | 8 :: t, _ => cases hs
  | 9 :: t, _ => cases hs
  | 11 :: t, _ => cases hs

theorem snd (B : Bd p R s m args c D ad cA y cn d G cf sf) {Rt : Option Value → Mm → Prop} {X : Nat × (Nat → Int32)} {E : EE} {lawf : Bool} {C : List Op} (hC : chk lawf y cn C = true) (hE : ∀ z, z ∉ yLaw → ∀ as M v M', E z as M v M' → Ev d z as M v M') (hR : RtW p l e R s m args below meth c Q D ad cA y G cf sf Rt) (hSc : ScW lawf s ad X) (h11 : C11 lawf E p l e R s m args below meth c Q D ad cA y G cf sf) :
    ∀ (n : Nat) (is : List Op), chk lawf y cn is = true → ∀ (L S : List Value) (M : Mm) (o : Op) (r : List Op), is = o :: r → wp E (AtW p l e R s m args below meth c Q D ad cA y G cf sf) Rt X C n is L S M → AtW p l e R s m args below meth c Q D ad cA y G cf sf o.1 L S M := by
  intro n
  induction n with
  | zero => intro is _ L S M o r _ h; exact h.elim
  | succ n ih =>
  intro is hchk L S M o r his h
  subst his
  obtain ⟨pc, i, inf⟩ := o
  have ijn : ∀ t, ∀ L S M, wp E (AtW p l e R s m args below meth c Q D ad cA y G cf sf) Rt X C n (jm C t) L S M → AtW p l e R s m args below meth c Q D ad cA y G cf sf t L S M := by
    intro t L S M h
    obtain ⟨q1, q2⟩ := jm_chk (t := t) hC
    cases hj : jm C t with
    | nil =>
      rw [hj] at h
      cases n with
      | zero => exact h.elim
      | succ n => exact h.elim
    | cons o r =>
      have e := q2 o r hj
      rw [← e]
      rw [hj] at q1 h
      exact ih _ q1 L S M o r rfl h
  unfold chk at hchk
  rw [Bool.and_eq_true] at hchk
  obtain ⟨hr, hchk⟩ := hchk
  have ihr : ∀ (pc' : Nat), hdP r = some pc' → ∀ L S M, wp E (AtW p l e R s m args below meth c Q D ad cA y G cf sf) Rt X C n r L S M → AtW p l e R s m args below meth c Q D ad cA y G cf sf pc' L S M := by
    intro pc' hp L S M h
    cases r with
    | nil => cases hp
    | cons o r =>
      cases hp
      exact ih _ hr L S M o r rfl h
  dsimp only at hchk
  by_cases hi : i = .nop
  · subst hi
    intro hg H locs ls hl hP hS
    exact h hg H locs ls hl.msk hP hS
  have hnop : isNop i = false := by
    cases i <;> first | rfl | exact absurd rfl hi
  rw [hnop] at hchk
  dsimp only at hchk
  rw [Bool.and_eq_true, Bool.and_eq_true] at hchk
  obtain ⟨hdec, hs, hnx⟩ := hchk
  obtain ⟨len, hd, hlen⟩ := decOK_e hdec
  have ih2 : endI i = false → ∀ L S M, wp E (AtW p l e R s m args below meth c Q D ad cA y G cf sf) Rt X C n r L S M → AtW p l e R s m args below meth c Q D ad cA y G cf sf (pc + lenI i) L S M := by
    intro he
    rw [he] at hnx
    exact ihr _ (of_decide_eq_true hnx)
  cases i with
  | iconst a1 =>
    have hlen := hlen (fun _ _ _ _ q => by cases q) (fun _ _ q => by cases q)
    subst hlen
    have ih2 := ih2 rfl
    exact o_iconst B hd ih2 h
  | lconst a1 =>
    have hlen := hlen (fun _ _ _ _ q => by cases q) (fun _ _ q => by cases q)
    subst hlen
    have ih2 := ih2 rfl
    exact o_lconst B hd ih2 h
  | aconst_null  =>
    have hlen := hlen (fun _ _ _ _ q => by cases q) (fun _ _ q => by cases q)
    subst hlen
    have ih2 := ih2 rfl
    exact o_null B hd ih2 h
  | iload_n a1 =>
    have hlen := hlen (fun _ _ _ _ q => by cases q) (fun _ _ q => by cases q)
    subst hlen
    have ih2 := ih2 rfl
    exact o_iloadn B hd ih2 h
  | iload a1 =>
    have hlen := hlen (fun _ _ _ _ q => by cases q) (fun _ _ q => by cases q)
    subst hlen
    have ih2 := ih2 rfl
    exact o_iload B hd ih2 h
  | lload_n a1 =>
    have hlen := hlen (fun _ _ _ _ q => by cases q) (fun _ _ q => by cases q)
    subst hlen
    have ih2 := ih2 rfl
    exact o_lloadn B hd ih2 h
  | lload a1 =>
    have hlen := hlen (fun _ _ _ _ q => by cases q) (fun _ _ q => by cases q)
    subst hlen
    have ih2 := ih2 rfl
    exact o_lload B hd ih2 h
  | aload_n a1 =>
    have hlen := hlen (fun _ _ _ _ q => by cases q) (fun _ _ q => by cases q)
    subst hlen
    have ih2 := ih2 rfl
    exact o_aloadn B hd ih2 h
  | aload a1 =>
    have hlen := hlen (fun _ _ _ _ q => by cases q) (fun _ _ q => by cases q)
    subst hlen
    have ih2 := ih2 rfl
    exact o_aload B hd ih2 h
  | iadd  =>
    have hlen := hlen (fun _ _ _ _ q => by cases q) (fun _ _ q => by cases q)
    subst hlen
    have ih2 := ih2 rfl
    exact o_iadd B hd ih2 h
  | isub  =>
    have hlen := hlen (fun _ _ _ _ q => by cases q) (fun _ _ q => by cases q)
    subst hlen
    have ih2 := ih2 rfl
    exact o_isub B hd ih2 h
  | imul  =>
    have hlen := hlen (fun _ _ _ _ q => by cases q) (fun _ _ q => by cases q)
    subst hlen
    have ih2 := ih2 rfl
    exact o_imul B hd ih2 h
  | idiv  =>
    have hlen := hlen (fun _ _ _ _ q => by cases q) (fun _ _ q => by cases q)
    subst hlen
    have ih2 := ih2 rfl
    exact o_idiv B hd ih2 h
  | irem  =>
    have hlen := hlen (fun _ _ _ _ q => by cases q) (fun _ _ q => by cases q)
    subst hlen
    have ih2 := ih2 rfl
    exact o_irem B hd ih2 h
  | iand  =>
    have hlen := hlen (fun _ _ _ _ q => by cases q) (fun _ _ q => by cases q)
    subst hlen
    have ih2 := ih2 rfl
    exact o_iand B hd ih2 h
  | ior  =>
    have hlen := hlen (fun _ _ _ _ q => by cases q) (fun _ _ q => by cases q)
    subst hlen
    have ih2 := ih2 rfl
    exact o_ior B hd ih2 h
  | ixor  =>
    have hlen := hlen (fun _ _ _ _ q => by cases q) (fun _ _ q => by cases q)
    subst hlen
    have ih2 := ih2 rfl
    exact o_ixor B hd ih2 h
  | ishl  =>
    have hlen := hlen (fun _ _ _ _ q => by cases q) (fun _ _ q => by cases q)
    subst hlen
    have ih2 := ih2 rfl
    exact o_ishl B hd ih2 h
  | ishr  =>
    have hlen := hlen (fun _ _ _ _ q => by cases q) (fun _ _ q => by cases q)
    subst hlen
    have ih2 := ih2 rfl
    exact o_ishr B hd ih2 h
  | iushr  =>
    have hlen := hlen (fun _ _ _ _ q => by cases q) (fun _ _ q => by cases q)
    subst hlen
    have ih2 := ih2 rfl
    exact o_iushr B hd ih2 h
  | i2l  =>
    have hlen := hlen (fun _ _ _ _ q => by cases q) (fun _ _ q => by cases q)
    subst hlen
    have ih2 := ih2 rfl
    exact o_i2l B hd ih2 h
  | i2b  =>
    have hlen := hlen (fun _ _ _ _ q => by cases q) (fun _ _ q => by cases q)
    subst hlen
    have ih2 := ih2 rfl
    exact o_i2b B hd ih2 h
  | ladd  =>
    have hlen := hlen (fun _ _ _ _ q => by cases q) (fun _ _ q => by cases q)
    subst hlen
    have ih2 := ih2 rfl
    exact o_ladd B hd ih2 h
  | lmul  =>
    have hlen := hlen (fun _ _ _ _ q => by cases q) (fun _ _ q => by cases q)
    subst hlen
    have ih2 := ih2 rfl
    exact o_lmul B hd ih2 h
  | lor  =>
    have hlen := hlen (fun _ _ _ _ q => by cases q) (fun _ _ q => by cases q)
    subst hlen
    have ih2 := ih2 rfl
    exact o_lor B hd ih2 h
  | lshl  =>
    have hlen := hlen (fun _ _ _ _ q => by cases q) (fun _ _ q => by cases q)
    subst hlen
    have ih2 := ih2 rfl
    exact o_lshl B hd ih2 h
  | lcmp  =>
    have hlen := hlen (fun _ _ _ _ q => by cases q) (fun _ _ q => by cases q)
    subst hlen
    have ih2 := ih2 rfl
    exact o_lcmp B hd ih2 h
  | dup  =>
    have hlen := hlen (fun _ _ _ _ q => by cases q) (fun _ _ q => by cases q)
    subst hlen
    have ih2 := ih2 rfl
    exact o_dup B hd ih2 h
  | dup2  =>
    have hlen := hlen (fun _ _ _ _ q => by cases q) (fun _ _ q => by cases q)
    subst hlen
    have ih2 := ih2 rfl
    exact o_dup2 B hd ih2 h
  | pop  =>
    have hlen := hlen (fun _ _ _ _ q => by cases q) (fun _ _ q => by cases q)
    subst hlen
    have ih2 := ih2 rfl
    exact o_pop B hd ih2 h
  | laload  =>
    have hlen := hlen (fun _ _ _ _ q => by cases q) (fun _ _ q => by cases q)
    subst hlen
    have ih2 := ih2 rfl
    exact o_lald B hd ih2 h
  | baload  =>
    have hlen := hlen (fun _ _ _ _ q => by cases q) (fun _ _ q => by cases q)
    subst hlen
    have ih2 := ih2 rfl
    exact o_bald B hd ih2 h
  | iastore  =>
    have hlen := hlen (fun _ _ _ _ q => by cases q) (fun _ _ q => by cases q)
    subst hlen
    have ih2 := ih2 rfl
    exact o_iast B hd ih2 h
  | lastore  =>
    have hlen := hlen (fun _ _ _ _ q => by cases q) (fun _ _ q => by cases q)
    subst hlen
    have ih2 := ih2 rfl
    exact o_last B hd ih2 h
  | bastore  =>
    have hlen := hlen (fun _ _ _ _ q => by cases q) (fun _ _ q => by cases q)
    subst hlen
    have ih2 := ih2 rfl
    exact o_bast B hd ih2 h
  | aastore  =>
    have hlen := hlen (fun _ _ _ _ q => by cases q) (fun _ _ q => by cases q)
    subst hlen
    have ih2 := ih2 rfl
    exact o_aast B hd ih2 h
  | bipush a1 =>
    have hlen := hlen (fun _ _ _ _ q => by cases q) (fun _ _ q => by cases q)
    subst hlen
    have ih2 := ih2 rfl
    exact o_bipush B (of_decide_eq_true hs) hd ih2 h
  | sipush a1 =>
    have hlen := hlen (fun _ _ _ _ q => by cases q) (fun _ _ q => by cases q)
    subst hlen
    have ih2 := ih2 rfl
    exact o_sipush B (of_decide_eq_true hs) hd ih2 h
  | ldc a1 =>
    have hlen := hlen (fun _ _ _ _ q => by cases q) (fun _ _ q => by cases q)
    subst hlen
    have ih2 := ih2 rfl
    obtain ⟨ps, hk⟩ := inCp_e hs
    exact o_ldc B (inP_gtb hk) hd ih2 h
  | ldc_w a1 =>
    have hlen := hlen (fun _ _ _ _ q => by cases q) (fun _ _ q => by cases q)
    subst hlen
    have ih2 := ih2 rfl
    obtain ⟨ps, hk⟩ := inCp_e hs
    exact o_ldcw B (inP_gtb hk) hd ih2 h
  | ldc2_w a1 =>
    have hlen := hlen (fun _ _ _ _ q => by cases q) (fun _ _ q => by cases q)
    subst hlen
    have ih2 := ih2 rfl
    obtain ⟨ps, hk⟩ := inCp_e hs
    exact o_ldc2 B (inP_gtb hk) hd ih2 h
  | istore_n a1 =>
    have hlen := hlen (fun _ _ _ _ q => by cases q) (fun _ _ q => by cases q)
    subst hlen
    have ih2 := ih2 rfl
    exact o_istoren B (Nat.le_of_ble_eq_true hs) hd ih2 h
  | istore a1 =>
    have hlen := hlen (fun _ _ _ _ q => by cases q) (fun _ _ q => by cases q)
    subst hlen
    have ih2 := ih2 rfl
    exact o_istore B (Nat.le_of_ble_eq_true hs) hd ih2 h
  | astore_n a1 =>
    have hlen := hlen (fun _ _ _ _ q => by cases q) (fun _ _ q => by cases q)
    subst hlen
    have ih2 := ih2 rfl
    exact o_astoren B (Nat.le_of_ble_eq_true hs) hd ih2 h
  | astore a1 =>
    have hlen := hlen (fun _ _ _ _ q => by cases q) (fun _ _ q => by cases q)
    subst hlen
    have ih2 := ih2 rfl
    exact o_astore B (Nat.le_of_ble_eq_true hs) hd ih2 h
  | lstore_n a1 =>
    have hlen := hlen (fun _ _ _ _ q => by cases q) (fun _ _ q => by cases q)
    subst hlen
    have ih2 := ih2 rfl
    exact o_lstoren B (Nat.le_of_ble_eq_true hs) hd ih2 h
  | lstore a1 =>
    have hlen := hlen (fun _ _ _ _ q => by cases q) (fun _ _ q => by cases q)
    subst hlen
    have ih2 := ih2 rfl
    exact o_lstore B (Nat.le_of_ble_eq_true hs) hd ih2 h
  | iinc a1 a2 =>
    have hlen := hlen (fun _ _ _ _ q => by cases q) (fun _ _ q => by cases q)
    subst hlen
    have ih2 := ih2 rfl
    exact o_iinc B (Nat.le_of_ble_eq_true hs) hd ih2 h
  | goto a1 =>
    have hlen := hlen (fun _ _ _ _ q => by cases q) (fun _ _ q => by cases q)
    subst hlen
    exact o_goto (K := fun _ _ _ => False) B hd (of_decide_eq_true hs) (fun _ _ _ q => q.elim) (ijn (inf.getD 0 0)) h
  | if_icmp a1 a2 =>
    have hlen := hlen (fun _ _ _ _ q => by cases q) (fun _ _ q => by cases q)
    subst hlen
    have ih2 := ih2 rfl
    exact o_icmp B hd (of_decide_eq_true hs) ih2 (ijn (inf.getD 0 0)) h
  | ifCond a1 a2 =>
    have hlen := hlen (fun _ _ _ _ q => by cases q) (fun _ _ q => by cases q)
    subst hlen
    have ih2 := ih2 rfl
    exact o_ifc B hd (of_decide_eq_true hs) ih2 (ijn (inf.getD 0 0)) h
  | ifnull a1 =>
    have hlen := hlen (fun _ _ _ _ q => by cases q) (fun _ _ q => by cases q)
    subst hlen
    have ih2 := ih2 rfl
    exact o_ifnull B hd (of_decide_eq_true hs) ih2 (ijn (inf.getD 0 0)) h
  | ifnonnull a1 =>
    have hlen := hlen (fun _ _ _ _ q => by cases q) (fun _ _ q => by cases q)
    subst hlen
    have ih2 := ih2 rfl
    exact o_ifnonnull B hd (of_decide_eq_true hs) ih2 (ijn (inf.getD 0 0)) h
  | if_acmp a1 a2 =>
    have hlen := hlen (fun _ _ _ _ q => by cases q) (fun _ _ q => by cases q)
    subst hlen
    have ih2 := ih2 rfl
    exact o_acmp B hd (of_decide_eq_true hs) ih2 (ijn (inf.getD 0 0)) h
  | tableswitch a1 a2 a3 a4 =>
    unfold sideI at hs
    rw [Bool.and_eq_true, Bool.and_eq_true, Bool.and_eq_true, Bool.and_eq_true] at hs
    obtain ⟨h1, h2, h3, h4, h5⟩ := hs
    refine o_table (K2 := fun t => wp E _ Rt X C n (jm C t)) B hd (of_decide_eq_true h1) (of_decide_eq_true h2) (of_decide_eq_true h3) (of_decide_eq_true h4) (fun j t hj => ?_) (fun t _ => ijn t) h
    have hjl : j < inf.tail.length := (List.getElem?_eq_some_iff.mp hj).1
    have h6 := List.all_eq_true.mp h5 j (List.mem_range.mpr hjl)
    split at h6
    · rename_i off ho
      refine ⟨off, ho, ?_⟩
      have h7 := of_decide_eq_true h6
      rw [h7, List.getD_eq_getElem?_getD, hj]
      rfl
    · cases h6
  | lookupswitch a1 a2 =>
    unfold sideI at hs
    dsimp only at hs
    split at hs
    · rename_i o0 o1 td t0 t1 hps
      rw [Bool.and_eq_true, Bool.and_eq_true] at hs
      have hps2 : a2 = #[(0, o0), (1, o1)] := Array.toList_inj.mp hps
      subst hps2
      exact o_look2 (K2 := fun t => wp E _ Rt X C n (jm C t)) B hd (of_decide_eq_true hs.1) (of_decide_eq_true hs.2.1) (of_decide_eq_true hs.2.2) (fun t _ => ijn t) h
    · cases hs
  | getfield a1 =>
    have hlen := hlen (fun _ _ _ _ q => by cases q) (fun _ _ q => by cases q)
    subst hlen
    have ih2 := ih2 rfl
    obtain ⟨ps, hk⟩ := inCp_e hs
    obtain ⟨a, r, rfl, h⟩ := popA_e h
    exact get_w B hd hk ih2 h
  | putfield a1 =>
    have hlen := hlen (fun _ _ _ _ q => by cases q) (fun _ _ q => by cases q)
    subst hlen
    have ih2 := ih2 rfl
    obtain ⟨ps, hk⟩ := inCp_e hs
    exact put_w B hd hk ih2 h
  | getstatic a1 =>
    have hlen := hlen (fun _ _ _ _ q => by cases q) (fun _ _ q => by cases q)
    subst hlen
    have ih2 := ih2 rfl
    obtain ⟨ps, hk⟩ := inCp_e hs
    exact gets_w B hd hk ih2 h
  | invokestatic a1 =>
    have hlen := hlen (fun _ _ _ _ q => by cases q) (fun _ _ q => by cases q)
    subst hlen
    have ih2 := ih2 rfl
    exact stat_w B hd hs hE h11 (ih2 _) h
  | invokevirtual a1 =>
    have hlen := hlen (fun _ _ _ _ q => by cases q) (fun _ _ q => by cases q)
    subst hlen
    have ih2 := ih2 rfl
    exact virt_w B hd hs hE (ih2 _) h
  | iaload  =>
    have hlen := hlen (fun _ _ _ _ q => by cases q) (fun _ _ q => by cases q)
    subst hlen
    have ih2 := ih2 rfl
    exact iald_w B hd hs hSc ih2 h
  | aaload  =>
    have hlen := hlen (fun _ _ _ _ q => by cases q) (fun _ _ q => by cases q)
    subst hlen
    have ih2 := ih2 rfl
    exact aald_w B hd hs ih2 h
  | arraylength  =>
    have hlen := hlen (fun _ _ _ _ q => by cases q) (fun _ _ q => by cases q)
    subst hlen
    have ih2 := ih2 rfl
    obtain ⟨a, r, rfl, h⟩ := popA_e h
    exact alen_w B hd hs hSc ih2 h
  | ireturn  =>
    have hlen := hlen (fun _ _ _ _ q => by cases q) (fun _ _ q => by cases q)
    subst hlen
    obtain ⟨x, r, rfl, h⟩ := popI_e h
    obtain ⟨rfl, h⟩ := popN_e h
    exact iret_w hR hd hs h
  | lreturn  =>
    have hlen := hlen (fun _ _ _ _ q => by cases q) (fun _ _ q => by cases q)
    subst hlen
    obtain ⟨x, r, rfl, h⟩ := popL_e h
    obtain ⟨rfl, h⟩ := popN_e h
    intro hg H locs ls hl hP hS
    exact hR _ _ h hg _ _ _ _ hP hS (Or.inr (Or.inl ⟨x, rfl, hd, of_decide_eq_true hs⟩))
  | areturn  =>
    have hlen := hlen (fun _ _ _ _ q => by cases q) (fun _ _ q => by cases q)
    subst hlen
    obtain ⟨x, r, rfl, h⟩ := popA_e h
    obtain ⟨rfl, h⟩ := popN_e h
    unfold sideI at hs
    dsimp only at hs
    split at hs
    · rename_i z hz
      intro hg H locs ls hl hP hS
      exact hR _ _ h hg _ _ _ _ hP hS (Or.inr (Or.inr (Or.inl ⟨x, z, rfl, hd, hz⟩)))
    · cases hs
  | return_  =>
    have hlen := hlen (fun _ _ _ _ q => by cases q) (fun _ _ q => by cases q)
    subst hlen
    obtain ⟨rfl, h⟩ := popN_e h
    intro hg H locs ls hl hP hS
    exact hR _ _ h hg _ _ _ _ hP hS (Or.inr (Or.inr (Or.inr ⟨rfl, hd, of_decide_eq_true hs⟩)))
  | nop => exact absurd rfl hi
  | _ => cases hs
end SN7
