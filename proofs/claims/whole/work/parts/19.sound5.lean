section SN5
variable {p : Program} {l : Launch} {e : Env} {R : Room} {s : State} {m : MethodId} {args : Array Value} {below : List Frame} {meth : Method} {c : Code} {Q : State → Prop}
variable {D : va_G} {ad : Nat → Nat} {cA : Nat → ClassId} {y cn d : Nat} {G : Nat → Prop} {cf sf : Nat → Nat} {pc : Nat} {L S : List Value} {M : Mm}
theorem AA_sub {sz sz1 q : Nat} (h : sz ≤ sz1) (hq : AA ad sz1 q) : AA ad sz q := hq.elim Or.inl (fun h1 => Or.inr (Nat.le_trans h h1))
/-- a callee's start -/
theorem pre_call (B : Bd p R s m args c D ad cA y cn d G cf sf) {H : Heap} {locs : List Loc} (hP : va_P D vwCl (wsM ad cA M) H) (hS : va_S (AA ad s.heap.size) s.heap H locs) {as : List Value} {U : State} (hU : U.heap = H) (hW : s.WarmedH U.vm) : PreE D ad cA H.size as M (as.map (pv ad)).toArray U := by
  refine ⟨rfl, by rw [hU], by rw [hU]; exact hP, va_K.moved hW.alike B.2.2.2.2.2.1, wsM_D B.2.2.2.2.2.2.1, ?_, Nx.warm hW B.2.2.2.2.2.2.2.2.1⟩
  rw [hU]
  exact ((B.2.2.2.2.2.2.2.1.kept (fun a h1 h2 => hS.2.1 a h1 h2)).narrow (fun q hq => AA_sub hS.1 hq)).moved hW.alike
/-- behind a call -/
theorem ev_go {H : Heap} {locs : List Loc} {k1 k2 : Nat} {ls : Array Slot} {st0 rest : List Value} {r : Option Value} {M' : Mm} {a : Array Value} (hr : va_Run p l e R s m args below meth c H locs k1 k2 0 0 (F0 m pc ls st0) rest (PostE D ad cA H.size r M M' a) (AA ad H.size)) (hS : va_S (AA ad s.heap.size) s.heap H locs)
    (kk : ∀ (H1 : Heap) (locs1 : List Loc), gh M' = gh M → va_P D vwCl (wsM ad cA M') H1 → va_S (AA ad s.heap.size) s.heap H1 locs1 → W p l e R s m args below meth c H1 locs1 k1 k2 Q (F0 m (pc + 3) ls ((r.map (pv ad)).toList ++ rest))) : W p l e R s m args below meth c H locs k1 k2 Q (F0 m pc ls st0) := by
  intro T hT X
  obtain ⟨v, st₀, t, T', L, h0, X', hL, e1, e2, ⟨⟨hv, hP1, hgh⟩, hz, hk⟩, st⟩ := hr T hT X
  cases hv
  rw [h0] at hz hk
  obtain ⟨t2, a1, b1⟩ := kk T'.heap (locs ++ L) hgh (by rw [e1]; exact hP1)
    ⟨Nat.le_trans hS.1 (by rw [e1]; exact hz), fun q h1 h2 => by rw [e1, hk q (Nat.lt_of_lt_of_le h1 hS.1) (fun z => h2 (AA_sub hS.1 z))]; exact hS.2.1 q h1 h2, fun q hq => by
      rcases List.mem_append.mp hq with h | h
      · exact hS.2.2 q h
      · exact AA_sub hS.1 (hL q h)⟩ T' rfl X'
  exact ⟨t2, st t2 a1, b1⟩
theorem cat_le (v : Value) : v.category ≤ 2 := by rcases lv_cat v with h | h <;> omega
theorem sum_cat : ∀ l : List Value, (l.map fun v => v.category).sum ≤ 2 * l.length
  | [] => Nat.le_refl 0
  | v :: r => by
    have h1 := sum_cat r
    have h2 := cat_le v
    rw [List.map_cons, List.sum_cons, List.length_cons]
    omega
theorem rest_ok {r : List Value} (h : r.length ≤ 4) : ((r.map (pv ad)).map fun v => v.category).sum ≤ 8 := by
  have := sum_cat (r.map (pv ad))
  rw [List.length_map] at this
  omega
theorem yT_len : yT.length = 281 := by decide +kernel
theorem mOK_p {y : Nat} (h : y < 281) (hl : y ∉ yLaw) : Cond.code (yN y) (yB y) (yM y) (yR y) ∈ gtb ∧ Cond.initialized (yN y).cls ∈ gtb ∧ ((yN y).cls ≠ "java/lang/invoke/MethodHandle" ∧ (yN y).cls ≠ "java/lang/invoke/VarHandle") ∧ yM y ≤ 40 ∧ (y ∈ yS → Cond.static (yN y) ∈ gtb) ∧ (y ∉ yS → Cond.instanceMethod (yN y) ∈ gtb ∧ Cond.selects (yN y).cls (yN y) (yN y) ∈ gtb) := by
  have hm := mOK_all h hl
  unfold mOK at hm
  simp only [Bool.and_eq_true] at hm
  obtain ⟨⟨⟨h1, h2⟩, h3⟩, h4⟩ := hm
  obtain ⟨h2, h9⟩ := h2
  unfold plainY at h2
  rw [Bool.and_eq_true, decide_eq_true_eq, decide_eq_true_eq] at h2
  rw [decide_eq_true_eq] at h9
  refine ⟨?_, inP_gtb h1, h2, Nat.le_of_ble_eq_true h3, fun q => ?_, fun q => ?_⟩
  · have hmem : yE y ∈ yT := by
      unfold yE
      rw [List.getD_eq_getElem?_getD, List.getElem?_eq_getElem (show y < yT.length by rw [yT_len]; exact h)]
      exact List.getElem_mem _
    rcases cwT _ hmem with q | q
    · exact absurd q h9
    · exact List.mem_filter.mpr ⟨q, rfl⟩
  · rw [if_pos q] at h4; exact inP_gtb h4
  · rw [if_neg q, Bool.and_eq_true] at h4; exact ⟨inP_gtb h4.1, inP_gtb h4.2⟩
/-- a static call -/
theorem run_S (B : Bd p R s m args c D ad cA y cn d G cf sf) {H : Heap} {locs : List Loc} {ls : Array Slot} {idx n z : Nat} {r : Option Value} {M' : Mm} {as rest : List Value} (hg : G (gh M)) (hd : decode (yB y) pc = .ok (.invokestatic idx, 3)) (hz : z < 281) (hl : z ∉ yLaw) (hst : z ∈ yS) (hn : parN (yN z) n = true) (hlk : (cn, idx, z) ∈ nestQ ∨ Cond.methodLink (Rn cn) idx (yN z) ∈ gtb) (has : as.length = n) (hrest : rest.length ≤ 4) (hE : Ev d z as M r M')
    (hsz : ls.size = yM y) (hP : va_P D vwCl (wsM ad cA M) H) (hS : va_S (AA ad s.heap.size) s.heap H locs) : va_Run p l e R s m args below meth c H locs (cf (gh M)) (sf (gh M)) 0 0 (F0 m pc ls (((as.reverse ++ rest)).map (pv ad))) (rest.map (pv ad)) (PostE D ad cA H.size r M M' (as.map (pv ad)).toArray) (AA ad H.size) := by
  obtain ⟨m1, m2, m3, m4, m5, -⟩ := mOK_p hz hl
  have hnn : (parseMethodDescriptor (yN z).desc).map (fun d => d.parameters.length) = some n := by
    unfold parN at hn
    exact of_decide_eq_true hn
  have hr9 := B.2.2.2.2.2.2.2.2.2.1
  have hcs := B.2.2.2.2.2.2.2.2.2.2 _ hg
  have hroom : (rmD d).frames + 1 ≤ R.frames ∧ 8 + (yM z + 11) + (rmD d).locals ≤ R.locals := ⟨hr9.1, by show 8 + (yM z + 11) + 200 * d ≤ R.locals; omega⟩
  have hgw : GoodIn gtb (wsY z) := fun w hw => by
    rcases List.mem_cons.mp hw with e | e
    · subst e; exact ⟨m1, good_of_word (gtb_good m1)⟩
    · exact ⟨e, good_of_word (gtb_good e)⟩
  have hpre : PreS s H (PreE D ad cA H.size as M) (as.map (pv ad)) := ⟨preE_blind, fun U hU hW => pre_call B hP hS hU hW⟩
  have hstk : ((as.reverse ++ rest)).map (pv ad) = (as.map (pv ad)).reverse ++ rest.map (pv ad) := by rw [List.map_append, List.map_reverse]
  rcases hlk with hlk | hlk
  · have hnx := B.2.2.2.2.2.2.2.2.1 _ hlk
    exact va_runSN ⟨B.1, B.2.1, B.2.2.1, B.2.2.2.1, B.2.2.2.2.1⟩ (hE l D ad cA H.size) ⟨va_cnB n B.2.2.2.2.1 hgw rfl rfl rfl hnx (B.2.2.2.2.1 _ m2) ⟨m3.1, m3.2, hnn⟩ hroom, B.2.2.2.2.1 _ (m5 hst), trivial⟩ hpre rfl (by rw [List.length_map]; exact has) hsz hstk (lv_room (rest_ok hrest)) hd hcs
  · have hgs : GoodIn gtb (va_wsS (Rn cn) idx (yN z) (wsY z)) := fun w hw => by
      unfold va_wsS at hw
      rcases List.mem_append.mp hw with q | q
      · simp only [List.mem_cons, List.not_mem_nil, or_false] at q
        rcases q with rfl | rfl | rfl
        · exact ⟨hlk, good_of_word (gtb_good hlk)⟩
        · exact ⟨m5 hst, good_of_word (gtb_good (m5 hst))⟩
        · exact ⟨m2, good_of_word (gtb_good m2)⟩
      · exact hgw w q
    exact va_runS ⟨B.1, B.2.1, B.2.2.1, B.2.2.2.1, B.2.2.2.2.1⟩ (hE l D ad cA H.size) (va_cwS n B.2.2.2.2.1 hgs rfl rfl rfl ⟨m3.1, m3.2, hnn⟩ hroom) hpre rfl (by rw [List.length_map]; exact has) hsz hstk (lv_room (rest_ok hrest)) hd hcs
/-- an instance call -/
theorem run_V (B : Bd p R s m args c D ad cA y cn d G cf sf) {H : Heap} {locs : List Loc} {ls : Array Slot} {idx n z cl b : Nat} {r : Option Value} {M' : Mm} {as rest : List Value} (hg : G (gh M)) (hd : decode (yB y) pc = .ok (.invokevirtual idx, 3)) (hz : z < 281) (hl : z ∉ yLaw) (hst : z ∉ yS) (hn : parN (yN z) n = true) (hlk : Cond.methodLink (Rn cn) idx (yN z) ∈ gtb) (hcl : (yN z).cls = (cq (cl - 1)).1) (hc1 : 1 ≤ cl ∧ cl ≤ 12) (hb : lay b = cl) (has : as.length = n) (hrest : rest.length ≤ 4) (hE : Ev d z (.ref b :: as) M r M')
    (hsz : ls.size = yM y) (hP : va_P D vwCl (wsM ad cA M) H) (hS : va_S (AA ad s.heap.size) s.heap H locs) : va_Run p l e R s m args below meth c H locs (cf (gh M)) (sf (gh M)) 0 0 (F0 m pc ls (((as.reverse ++ .ref b :: rest)).map (pv ad))) (rest.map (pv ad)) (PostE D ad cA H.size r M M' ((.ref b :: as).map (pv ad)).toArray) (AA ad H.size) := by
  obtain ⟨m1, m2, m3, m4, -, m6⟩ := mOK_p hz hl
  have hnn : (parseMethodDescriptor (yN z).desc).map (fun d => d.parameters.length) = some n := by
    unfold parN at hn
    exact of_decide_eq_true hn
  have hr9 := B.2.2.2.2.2.2.2.2.2.1
  have hcs := B.2.2.2.2.2.2.2.2.2.2 _ hg
  have hroom : (rmD d).frames + 1 ≤ R.frames ∧ 8 + (yM z + 11) + (rmD d).locals ≤ R.locals := ⟨hr9.1, by show 8 + (yM z + 11) + 200 * d ≤ R.locals; omega⟩
  have hgw : GoodIn gtb (wsV (Rn cn) idx (yN z).cls (yN z) (wsY z)) := fun w hw => by
    unfold wsV at hw
    rcases List.mem_append.mp hw with q | hw
    · simp only [List.mem_cons, List.not_mem_nil, or_false] at q
      rcases q with rfl | rfl | rfl | rfl
      · exact ⟨hlk, good_of_word (gtb_good hlk)⟩
      · exact ⟨(m6 hst).1, good_of_word (gtb_good (m6 hst).1)⟩
      · exact ⟨(m6 hst).2, good_of_word (gtb_good (m6 hst).2)⟩
      · exact ⟨m2, good_of_word (gtb_good m2)⟩
    · rcases List.mem_cons.mp hw with e | e
      · subst e; exact ⟨m1, good_of_word (gtb_good m1)⟩
      · exact ⟨e, good_of_word (gtb_good e)⟩
  have hb0 : lay b ≠ 0 := by omega
  have hpb := pv_ref (ad := ad) (dom_pos b (lay_dom hb0))
  obtain ⟨q, hq, hw⟩ := wsM_at (ad := ad) (cA := cA) hb0
  have hci : cl - 1 < 12 := by omega
  have hrecv : ∃ cell : Cell, H[ad b]? = some cell ∧ cell.vm.isStatics = false ∧ s.vm.findClass (yN z).cls = some cell.cls := by
    rw [hcl]
    exact va_recv B.2.2.2.2.2.1 hP (cl_cq hci) (by rw [hw, ent_obj hci (by omega)])
  have hpre : PreV s H (yN z).cls (ad b) (PreE D ad cA H.size (.ref b :: as) M) (as.map (pv ad)) := by
    refine ⟨preE_blind, hrecv, fun U hU hW => ?_⟩
    have := pre_call B hP hS (as := .ref b :: as) hU hW
    rw [List.map_cons, hpb] at this
    exact this
  have hstk : ((as.reverse ++ .ref b :: rest)).map (pv ad) = (as.map (pv ad)).reverse ++ .ref (ad b) :: rest.map (pv ad) := by rw [List.map_append, List.map_reverse, List.map_cons, hpb]
  rw [List.map_cons, hpb]
  exact va_runV ⟨B.1, B.2.1, B.2.2.1, B.2.2.2.1, B.2.2.2.2.1⟩ (hE l D ad cA H.size) (cwV n B.2.2.2.2.1 hgw rfl rfl rfl ⟨rfl, m3.1, m3.2, hnn⟩ hroom) hpre rfl (by rw [List.length_map]; exact has) hsz hstk (lv_room (rest_ok hrest)) hd hcs
theorem wpInv_e {E : EE} {z : Nat} {as r : List Value} {K : List Value → Mm → Prop} {rk : Nat} (h : wpInv E z as r M K rk) : ∃ (v : Option Value) (M' : Mm), E z as M v M' ∧ K (v.toList ++ r) M' := by
  match rk, h with
  | 0, ⟨M', h1, h2⟩ => exact ⟨none, M', h1, h2⟩
  | 1, ⟨v, M', h1, h2⟩ => exact ⟨_, M', h1, h2⟩
  | 2, ⟨v, M', h1, h2⟩ => exact ⟨_, M', h1, h2⟩
  | 3, ⟨v, M', h1, h2⟩ => exact ⟨_, M', h1, h2⟩
theorem map_toList (v : Option Value) (r : List Value) : (v.map (pv ad)).toList ++ r.map (pv ad) = (v.toList ++ r).map (pv ad) := by
  cases v <;> rfl
theorem takeS_e : ∀ {n : Nat} {S acc : List Value} {K : List Value → List Value → Prop}, takeS n S acc K → ∃ as r, as.length = n ∧ S = as.reverse ++ r ∧ K (as ++ acc) r
  | 0, S, acc, K, h => ⟨[], S, rfl, rfl, h⟩
  | n + 1, v :: S, acc, K, h => by
    obtain ⟨as, r, h1, h2, h3⟩ := takeS_e (n := n) (S := S) (acc := v :: acc) h
    exact ⟨as ++ [v], r, by rw [List.length_append, h1]; rfl, by rw [h2]; simp, by rw [List.append_assoc]; exact h3⟩
theorem o_callS (B : Bd p R s m args c D ad cA y cn d G cf sf) {K : List Value → Mm → Prop} {idx n z rk : Nat} {E : EE} (hd : decode (yB y) pc = .ok (.invokestatic idx, 3)) (hz : z < 281) (hl : z ∉ yLaw) (hst : z ∈ yS) (hn : parN (yN z) n = true) (hlk : (cn, idx, z) ∈ nestQ ∨ Cond.methodLink (Rn cn) idx (yN z) ∈ gtb) (hE : ∀ as M v M', E z as M v M' → Ev d z as M v M') (ih : ∀ S M, K S M → AtW p l e R s m args below meth c Q D ad cA y G cf sf (pc + 3) L S M)
    (h : takeS n S [] fun as r => cond (Nat.ble r.length 4) (wpInv E z as r M K rk) False) : AtW p l e R s m args below meth c Q D ad cA y G cf sf pc L S M := by
  obtain ⟨as, r, g1, g2, g3⟩ := takeS_e h
  rw [List.append_nil] at g3
  cases hc : Nat.ble r.length 4 with
  | false => rw [hc] at g3; exact g3.elim
  | true =>
    rw [hc] at g3
    have c2 := Nat.le_of_ble_eq_true hc
    obtain ⟨v, M', h1, h2⟩ := wpInv_e g3
    intro hg H locs ls hlk2 hP hS
    have hrun := run_S (l := l) (e := e) (below := below) (meth := meth) B hg hd hz hl hst hn hlk g1 c2 (hE _ _ _ _ h1) hlk2.1 hP hS
    rw [← g2] at hrun
    refine ev_go hrun hS fun H1 locs1 hgh hP1 hS1 => ?_
    have := ih _ _ h2 (by rw [hgh]; exact hg) H1 locs1 ls hlk2 hP1 hS1
    rw [hgh] at this
    rw [map_toList]
    exact this
theorem o_callV (B : Bd p R s m args c D ad cA y cn d G cf sf) {K : List Value → Mm → Prop} {idx n z rk cl : Nat} {E : EE} (hd : decode (yB y) pc = .ok (.invokevirtual idx, 3)) (hz : z < 281) (hl : z ∉ yLaw) (hst : z ∉ yS) (hn : parN (yN z) n = true) (hlk : Cond.methodLink (Rn cn) idx (yN z) ∈ gtb) (hcl : (yN z).cls = (cq (cl - 1)).1) (hc1 : 1 ≤ cl ∧ cl ≤ 12) (hE : ∀ as M v M', E z as M v M' → Ev d z as M v M') (ih : ∀ S M, K S M → AtW p l e R s m args below meth c Q D ad cA y G cf sf (pc + 3) L S M)
    (h : takeS n S [] fun as r => popA r fun a r => cond (Nat.ble r.length 4) (lay a = cl ∧ wpInv E z (.ref a :: as) r M K rk) False) : AtW p l e R s m args below meth c Q D ad cA y G cf sf pc L S M := by
  obtain ⟨as, r0, g1, g2, g3⟩ := takeS_e h
  rw [List.append_nil] at g3
  obtain ⟨b, r, rfl, g4⟩ := popA_e g3
  cases hc : Nat.ble r.length 4 with
  | false => rw [hc] at g4; exact g4.elim
  | true =>
    rw [hc] at g4
    have c2 := Nat.le_of_ble_eq_true hc
    obtain ⟨hb, h0⟩ := g4
    obtain ⟨v, M', h1, h2⟩ := wpInv_e h0
    intro hg H locs ls hlk2 hP hS
    have hrun := run_V (l := l) (e := e) (below := below) (meth := meth) B hg hd hz hl hst hn hlk hcl hc1 hb g1 c2 (hE _ _ _ _ h1) hlk2.1 hP hS
    rw [← g2] at hrun
    refine ev_go hrun hS fun H1 locs1 hgh hP1 hS1 => ?_
    have := ih _ _ h2 (by rw [hgh]; exact hg) H1 locs1 ls hlk2 hP1 hS1
    rw [hgh] at this
    rw [map_toList]
    exact this
end SN5
