/-! ===== the constructors' machine is right ===== -/
theorem oI_e {α : Type} {S : List Value} {K : Int32 → List Value → Option α} {y : α} (h : oI S K = some y) : ∃ x r, S = .int x :: r ∧ K x r = some y := by
  unfold oI at h
  split at h
  · exact ⟨_, _, rfl, h⟩
  · cases h
theorem oL_e {α : Type} {S : List Value} {K : Int64 → List Value → Option α} {y : α} (h : oL S K = some y) : ∃ x r, S = .long x :: r ∧ K x r = some y := by
  unfold oL at h
  split at h
  · exact ⟨_, _, rfl, h⟩
  · cases h
theorem oA_e {α : Type} {S : List Value} {K : Nat → List Value → Option α} {y : α} (h : oA S K = some y) : ∃ (x : Nat) (r : List Value), S = .ref x :: r ∧ K x r = some y := by
  unfold oA at h
  split at h
  · exact ⟨_, _, rfl, h⟩
  · cases h
theorem oB_e {α : Type} {b : Bool} {K : Option α} {y : α} (h : oB b K = some y) : b = true ∧ K = some y := by
  cases b with
  | true => exact ⟨rfl, h⟩
  | false => cases h
theorem oF_e {α β : Type} {o : Option β} {K : β → Option α} {y : α} (h : oF o K = some y) : ∃ x, o = some x ∧ K x = some y := by
  cases o with
  | some x => exact ⟨x, rfl, h⟩
  | none => cases h
theorem xI_e {α : Type} {L : List Value} {k : Nat} {K : Int32 → Option α} {y : α} (h : xI L k K = some y) : ∃ x, L[k]? = some (.int x) ∧ K x = some y := by
  unfold xI at h
  split at h
  · rename_i x hx
    exact ⟨x, getD_some hx rfl, h⟩
  · cases h
theorem xA_e {α : Type} {L : List Value} {k : Nat} {K : Nat → Option α} {y : α} (h : xA L k K = some y) : ∃ x : Nat, L[k]? = some (.ref x) ∧ K x = some y := by
  unfold xA at h
  split at h
  · rename_i x hx
    exact ⟨x, getD_some hx rfl, h⟩
  · cases h
theorem oT_e {α : Type} : ∀ {n : Nat} {S acc : List Value} {K : List Value → List Value → Option α} {y : α}, oT n S acc K = some y → ∃ as r, as.length = n ∧ S = as.reverse ++ r ∧ K (as ++ acc) r = some y
  | 0, S, acc, K, y, h => ⟨[], S, rfl, rfl, h⟩
  | n + 1, v :: S, acc, K, y, h => by
    obtain ⟨as, r, h1, h2, h3⟩ := oT_e (n := n) (S := S) (acc := v :: acc) h
    exact ⟨as ++ [v], r, by rw [List.length_append, h1]; rfl, by rw [h2]; simp, by rw [List.append_assoc]; exact h3⟩
  | n + 1, [], acc, K, y, h => by cases h
theorem nbz {a : Nat} (h : (!Nat.beq a 0) = true) : a ≠ 0 := by
  intro e
  subst e
  cases h
theorem inRB_e {i : Int32} {n : Nat} (h : inRB i n = true) : inR i n := by
  unfold inRB at h
  rw [Bool.and_eq_true] at h
  have h1 : ¬ i < 0 := by simpa using h.1
  have h2 := Nat.le_of_ble_eq_true h.2
  exact fun q => q.elim h1 fun z => by omega
theorem isR_nar {ty : FieldType} (h : ty.isReference = true) {v : Value} (hv : v = .null ∨ ∃ q, v = .ref q) : narrow ty v = v ∧ fits ty v = true := by
  cases ty with
  | object z => rcases hv with rfl | ⟨q, rfl⟩ <;> exact ⟨rfl, rfl⟩
  | array z => rcases hv with rfl | ⟨q, rfl⟩ <;> exact ⟨rfl, rfl⟩
  | _ => cases h
theorem jm_chkC {cc : ByteArray} {nL cn t : Nat} {ini : Bool} : ∀ {C : List Op}, chkC cc nL cn ini C = true → chkC cc nL cn ini (jm C t) = true ∧ (∀ o r, jm C t = o :: r → o.1 = t)
  | [], _ => ⟨rfl, fun o r h => by cases h⟩
  | o :: C, h => by
    unfold jm
    cases hb : Nat.beq o.1 t with
    | true => exact ⟨h, fun o' r h' => by cases h'; exact Nat.eq_of_beq_eq_true hb⟩
    | false =>
      unfold chkC at h
      rw [Bool.and_eq_true] at h
      exact jm_chkC h.1
theorem decK_e {cc : ByteArray} {pc : Nat} {i : Instr} (h : decK cc pc i = true) : decode cc pc = .ok (i, lenC i) := by
  unfold decK at h
  split at h
  · rename_i j n hj
    rw [Bool.and_eq_true, decide_eq_true_eq] at h
    obtain ⟨rfl, h2⟩ := h
    rw [Nat.eq_of_beq_eq_true h2] at hj
    exact hj
  · cases h
theorem fldC_e {cn idx ci k : Nat} {t : List Nat} (h : fldC cn idx (ci :: k :: t) = true) : Cond.fieldLink (Rn cn) idx (cq ci).1 ((cq ci).2.1 k).2.1 ((cq ci).2.1 k).2.2.1 ∈ gtb ∧ k < (cq ci).2.2 ∧ ci < 12 ∧ ((cq ci).2.1 k).1 = (cq ci).1 := by
  match t, h with
  | q :: _, h =>
    unfold fldC at h
    simp only [Bool.and_eq_true, decide_eq_true_eq] at h
    exact ⟨inP_gtb h.1, Nat.le_of_ble_eq_true h.2.1, Nat.le_of_ble_eq_true h.2.2.1, h.2.2.2⟩
  | [], h => cases h
def rmC (d k : Nat) : Room := { frames := d, cells := kmc k, slots := kms k, locals := 200 * d }
def wsK (k : Nat) : List Cond := .code (kN k) (kB k) (kM k) none :: gtb
def EvC (d k : Nat) (as : List Value) (σ σ' : Kst) : Prop := ∀ (l : Launch) (D : va_G) (cA : Nat → ClassId) (ad : Nat → Nat) (sz : Nat), Met l (kN k) (wsK k) (rmC d k) (PreC D cA ad sz as σ) (PostC D cA ad sz σ σ') (kmc k) (kms k) (A0 ad σ.2.1 sz)
theorem kok_e {k : Nat} (hk : k < 15) : Cond.initialized (kN k).cls ∈ gtb ∧ Cond.instanceMethod (kN k) ∈ gtb ∧ (kini k = true → (kN k).name = "<init>") ∧ (kini k = false → Cond.selects (kN k).cls (kN k) (kN k) ∈ gtb) ∧ ((kN k).cls ≠ "java/lang/invoke/MethodHandle" ∧ (kN k).cls ≠ "java/lang/invoke/VarHandle") ∧ kM k ≤ 40 ∧ plainName (kN k).cls = true ∧ Rn (kCn k) = (kN k).cls ∧ hdP (kC k) = some 0 := by
  have h := kok k hk
  unfold kokB at h
  simp only [Bool.and_eq_true, decide_eq_true_eq, Bool.or_eq_true, Bool.not_eq_true'] at h
  obtain ⟨h1, h2, h3, h4, h5, h6, h7, h8⟩ := h
  unfold plainY at h4
  rw [Bool.and_eq_true, decide_eq_true_eq, decide_eq_true_eq] at h4
  refine ⟨inP_gtb h1, inP_gtb h2, fun q => ?_, fun q => ?_, h4, Nat.le_of_ble_eq_true h5, h6, h7, h8⟩
  · rcases h3 with z | z
    · exact z.2
    · rw [q] at z; exact absurd z.1 (by decide)
  · rcases h3 with z | z
    · rw [q] at z; exact absurd z.1 (by decide)
    · exact inP_gtb z.2
theorem wsK_good {k : Nat} (hk : k < 15) : GoodIn gtb (wsK k) := fun w hw => by
  rcases List.mem_cons.mp hw with e | e
  · subst e; exact ⟨kcw k hk, good_of_word (gtb_good (kcw k hk))⟩
  · exact ⟨e, good_of_word (gtb_good e)⟩
section CM4
variable {p : Program} {l : Launch} {e : Env} {R : Room} {s : State} {m : MethodId} {args : Array Value} {below : List Frame} {meth : Method} {c : Code} {Q : State → Prop}
variable {D : va_G} {cA : Nat → ClassId} {cc : ByteArray} {nL cn d : Nat} {ini : Bool} {dm0 : List Nat} {ad0 : Nat → Nat}
variable {pc nc ns : Nat} {L S r : List Value} {σ σ' : Kst}
theorem parN_e {y : MethodName} {n : Nat} (h : parN y n = true) : (parseMethodDescriptor y.desc).map (fun d => d.parameters.length) = some n := by
  unfold parN at h
  exact of_decide_eq_true h
/-- behind a call, at the caller -/
theorem k_behind {k : Nat} {rest : List Value} {ad : Nat → Nat} {H : Heap} {locs : List Loc} {ls : Array Slot} {st0 : List Value} {aa : Array Value} (h1 : ∀ b, kp dm0 b → ad b = ad0 b) (h2 : ∀ b ∈ dm0, b ∈ σ.2.1) (hl : lok ad ls nL L) (hW : CWd D cA ad σ.2.1 (mC σ) (A0 ad0 dm0 s.heap.size) H) (hS : va_S (A0 ad0 dm0 s.heap.size) s.heap H locs) (hL : allV σ.2.1 L = true) (hr : allV σ.2.1 rest = true)
    (hrun : va_Run p l e R s m args below meth c H locs nc ns (kmc k) (kms k) (F0 m pc ls st0) (rest.map (pv ad)) (PostC D cA ad H.size σ σ' aa) (A0 ad σ.2.1 H.size)) (ih : AtC p l e R s m args below meth c Q D cA nL dm0 ad0 (pc + 3) L rest σ' (nc + kmc k) (ns + kms k)) : W p l e R s m args below meth c H locs nc ns Q (F0 m pc ls st0) := by
  refine evC_go hrun hW hS fun ad' H1 locs1 hsub hag hW1 hS1 => ?_
  have h9 := ih ad' H1 locs1 ls (fun b hb => (hag b (hb.imp (h2 b) id)).trans (h1 b hb)) (fun b hb => hsub b (h2 b hb)) (lok_ad hL hag hl) hW1 hS1
  rw [map_ad hr hag] at h9
  exact h9
theorem k_callI (B : BdC p R s m args meth c D cA cc nL cn d ini) {idx k na a : Nat} {as rest : List Value} (hd : decode cc pc = .ok (.invokespecial idx, 3)) (hk : k < 15) (hi : kini k = true) (hlk : Cond.methodLink (Rn cn) idx (kN k) ∈ gtb ∨ (cn, idx, kN k) ∈ nestC) (hna : parN (kN k) na = true) (has : as.length = na) (hrest : rest.length ≤ 4) (ha : a ∈ σ.2.1) (hL : allV σ.2.1 L = true) (hr : allV σ.2.1 rest = true) (hc : nc + kmc k ≤ R.cells) (hs : ns + kms k ≤ R.slots) (hE : EvC d k (.ref a :: as) σ σ')
    (ih : AtC p l e R s m args below meth c Q D cA nL dm0 ad0 (pc + 3) L rest σ' (nc + kmc k) (ns + kms k)) : AtC p l e R s m args below meth c Q D cA nL dm0 ad0 pc L (as.reverse ++ .ref a :: rest) σ nc ns := by
  intro ad H locs ls h1 h2 hl hW hS
  obtain ⟨m1, m2, m3, m4, m5, m6, m7, m8, m9⟩ := kok_e hk
  have hr9 := B.2.2.2.2.2.2.2.1
  have hroom : (rmC d k).frames + 1 ≤ R.frames ∧ 8 + (kM k + 11) + (rmC d k).locals ≤ R.locals := ⟨hr9.1, by show 8 + (kM k + 11) + 200 * d ≤ R.locals; omega⟩
  have hp := pv_ref (ad := ad) (CWd_pos hW ha)
  have hpre : PreS s H (PreC D cA ad H.size (.ref a :: as) σ) (.ref (ad a) :: as.map (pv ad)) := ⟨preC_blind, fun U hU hWm => by
    have := preC_call B hW (as := .ref a :: as) hU hWm
    rw [List.map_cons, hp] at this
    exact this⟩
  have hstk : ((as.reverse ++ .ref a :: rest)).map (pv ad) = (as.map (pv ad)).reverse ++ .ref (ad a) :: rest.map (pv ad) := by rw [List.map_append, List.map_reverse, List.map_cons, hp]
  have fix : CallFix p m c cc nL s args gtb (Rn cn) := ⟨B.1, B.2.1, B.2.2.1, B.2.2.2.1, B.2.2.2.2.1⟩
  rcases hlk with hlk | hlk
  · exact k_behind (k := k) h1 h2 hl hW hS hL hr (va_runI fix (hE l D cA ad H.size) (cwI na B.2.2.2.2.1 (wsK_good hk) rfl rfl rfl (B.2.2.2.2.1 _ m1) (B.2.2.2.2.1 _ hlk) (B.2.2.2.2.1 _ m2) (m3 hi) ⟨m5.1, m5.2, parN_e hna⟩ hroom) hpre rfl (by rw [List.length_map]; exact has) hl.1 hstk (lv_room (rest_ok hrest)) hd ⟨hc, hs⟩) ih
  · exact k_behind (k := k) h1 h2 hl hW hS hL hr (va_runIN fix (hE l D cA ad H.size) ⟨va_cnB na B.2.2.2.2.1 (wsK_good hk) rfl rfl rfl (B.2.2.2.2.2.2.1.2.2 _ hlk) (B.2.2.2.2.1 _ m1) ⟨m5.1, m5.2, parN_e hna⟩ hroom, m3 hi, B.2.2.2.2.1 _ m2⟩ hpre rfl (by rw [List.length_map]; exact has) hl.1 hstk (lv_room (rest_ok hrest)) hd ⟨hc, hs⟩) ih
theorem k_callV (B : BdC p R s m args meth c D cA cc nL cn d ini) {idx k na a : Nat} {as rest : List Value} (hd : decode cc pc = .ok (.invokevirtual idx, 3)) (hk : k < 15) (hi : kini k = false) (hlk : Cond.methodLink (Rn cn) idx (kN k) ∈ gtb) (hna : parN (kN k) na = true) (has : as.length = na) (hrest : rest.length ≤ 4) (ha : a ∈ σ.2.1) (hcl : clsB a k = true) (hL : allV σ.2.1 L = true) (hr : allV σ.2.1 rest = true) (hc : nc + kmc k ≤ R.cells) (hs : ns + kms k ≤ R.slots) (hE : EvC d k (.ref a :: as) σ σ')
    (ih : AtC p l e R s m args below meth c Q D cA nL dm0 ad0 (pc + 3) L rest σ' (nc + kmc k) (ns + kms k)) : AtC p l e R s m args below meth c Q D cA nL dm0 ad0 pc L (as.reverse ++ .ref a :: rest) σ nc ns := by
  intro ad H locs ls h1 h2 hl hW hS
  obtain ⟨m1, m2, m3, m4, m5, m6, m7, m8, m9⟩ := kok_e hk
  have hr9 := B.2.2.2.2.2.2.2.1
  have hroom : (rmC d k).frames + 1 ≤ R.frames ∧ 8 + (kM k + 11) + (rmC d k).locals ≤ R.locals := ⟨hr9.1, by show 8 + (kM k + 11) + 200 * d ≤ R.locals; omega⟩
  have hp := pv_ref (ad := ad) (CWd_pos hW ha)
  unfold clsB at hcl
  simp only [Bool.and_eq_true, decide_eq_true_eq] at hcl
  obtain ⟨q1, q2, q3⟩ := hcl
  have q1 := Nat.le_of_ble_eq_true q1
  have q2 := Nat.le_of_ble_eq_true q2
  obtain ⟨q, hq, hw⟩ := wsC_at (ad := ad) (cA := cA) ha
  have hrecv : ∃ cell : Cell, H[ad a]? = some cell ∧ cell.vm.isStatics = false ∧ s.vm.findClass (kN k).cls = some cell.cls := by
    rw [← q3]
    exact va_recv B.2.2.2.2.2.1 hW.1 (cl_cq (show lay a - 1 < 12 by omega)) (by rw [hw, entC_obj (show lay a - 1 < 12 by omega) (by omega)])
  have hpre : PreV s H (kN k).cls (ad a) (PreC D cA ad H.size (.ref a :: as) σ) (as.map (pv ad)) := ⟨preC_blind, hrecv, fun U hU hWm => by
    have := preC_call B hW (as := .ref a :: as) hU hWm
    rw [List.map_cons, hp] at this
    exact this⟩
  have hstk : ((as.reverse ++ .ref a :: rest)).map (pv ad) = (as.map (pv ad)).reverse ++ .ref (ad a) :: rest.map (pv ad) := by rw [List.map_append, List.map_reverse, List.map_cons, hp]
  have fix : CallFix p m c cc nL s args gtb (Rn cn) := ⟨B.1, B.2.1, B.2.2.1, B.2.2.2.1, B.2.2.2.2.1⟩
  have hgw : GoodIn gtb (wsV (Rn cn) idx (kN k).cls (kN k) (wsK k)) := fun w hw => by
    unfold wsV at hw
    rcases List.mem_append.mp hw with q | hw
    · simp only [List.mem_cons, List.not_mem_nil, or_false] at q
      rcases q with rfl | rfl | rfl | rfl
      · exact ⟨hlk, good_of_word (gtb_good hlk)⟩
      · exact ⟨m2, good_of_word (gtb_good m2)⟩
      · exact ⟨m4 hi, good_of_word (gtb_good (m4 hi))⟩
      · exact ⟨m1, good_of_word (gtb_good m1)⟩
    · exact wsK_good hk w hw
  exact k_behind (k := k) h1 h2 hl hW hS hL hr (va_runV fix (hE l D cA ad H.size) (cwV na B.2.2.2.2.1 hgw rfl rfl rfl ⟨rfl, m5.1, m5.2, parN_e hna⟩ hroom) hpre rfl (by rw [List.length_map]; exact has) hl.1 hstk (lv_room (rest_ok hrest)) hd ⟨hc, hs⟩) ih
end CM4
