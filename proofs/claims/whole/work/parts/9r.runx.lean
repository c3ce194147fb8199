/-! ===== a call of a method that returns or throws ===== -/
section RVX
variable {p : Program} {l : Launch} {e : Env} {R : Room} {s : State} {m : MethodId} {args : Array Value} {below : List Frame} {meth : Method} {c : Code}
variable {D : va_G} {ad : Nat → Nat} {cA : Nat → ClassId} {y cn d : Nat} {G : Nat → Prop} {cf sf : Nat → Nat} {pc : Nat} {M : Mm}
theorem xW_warm {U : State} (hW : s.WarmedH U.vm) {w : Cond} (hw : w ∈ xWs) (h : w.before #[] s = true) : w.before #[] U = true := by
  by_cases c : goodWord w = true
  · exact word_at hW (good_of_word c) h
  · have h1 : w.warmB w.codeNames = true := List.all_eq_true.mp xW5 w (List.mem_filter.mpr ⟨hw, by simpa using c⟩)
    have h2 : w.onTables = true := by
      have := List.all_eq_true.mp xW2 w hw
      simp only [vx_ot, Bool.or_eq_true] at this
      exact this.resolve_right c
    exact va_tabs (u := s.setVm U.vm) h2 rfl (Cond.pre_warmed hW h1 h)
theorem XG_at {U : State} {H : Heap} {locs : List Loc} (hS : va_S (AA ad s.heap.size) s.heap H locs) (hG : XG (AA ad s.heap.size) s s.heap) (hW : s.WarmedH U.vm) (hU : U.heap = H) : XG (AA ad H.size) U U.heap := by
  obtain ⟨h1, h2, h3, ⟨a1, h4⟩, ⟨a2, h5⟩, ⟨a3, h6⟩⟩ := hG
  have nar : ∀ q, AA ad H.size q → AA ad s.heap.size q := fun q hq => hq.imp id fun k => Nat.le_trans hS.1 k
  rw [hU]
  exact ⟨fun w hw => xW_warm hW hw (h1 w hw), vx_Zq.moved hW.alike (vx_Zq.narrow (vx_Zq.kept h2 hS.2.1) nar), vx_Zq.moved hW.alike (vx_Zq.narrow (vx_Zq.kept h3 hS.2.1) nar), ⟨a1, vk_R.warm hW h4⟩, ⟨a2, vk_R.warm hW h5⟩, ⟨a3, vk_R.warm hW h6⟩⟩
theorem run_VX (B : Bd p R s m args c D ad cA y cn d G cf sf) {H : Heap} {locs : List Loc} {ls : Array Slot} {idx n z cl b : Nat} {r : Option Value} {M' : Mm} {as rest : List Value} {ok : Prop} (hst0 : l.stackTraces = false) (hG : XG (AA ad s.heap.size) s s.heap) (hcs : cf (gh M) + 1 ≤ R.cells ∧ sf (gh M) + 6 ≤ R.slots) (hd : decode (yB y) pc = .ok (.invokevirtual idx, 3)) (hz : z < 281) (hl : z ∉ yLaw) (hst : z ∉ yS) (hn : parN (yN z) n = true) (hlk : Cond.methodLink (Rn cn) idx (yN z) ∈ gtb) (hcl : (yN z).cls = (cq (cl - 1)).1) (hc1 : 1 ≤ cl ∧ cl ≤ 12) (hb : lay b = cl) (has : as.length = n) (hrest : rest.length ≤ 4) (hE : EvX d z (.ref b :: as) M ok r M')
    (hsz : ls.size = yM y) (hP : va_P D vwCl (wsM ad cA M) H) (hS : va_S (AA ad s.heap.size) s.heap H locs) : vx_Run p l e R s m args below meth c H locs (cf (gh M)) (sf (gh M)) 1 6 (F0 m pc ls (((as.reverse ++ .ref b :: rest)).map (pv ad))) (rest.map (pv ad)) (PostX ok D ad cA H.size r M M' ((.ref b :: as).map (pv ad)).toArray) (XCX ok D ad cA H.size M) (AA ad H.size) := by
  obtain ⟨m1, m2, m3, m4, -, m6⟩ := mOK_p hz hl
  have hnn : (parseMethodDescriptor (yN z).desc).map (fun d => d.parameters.length) = some n := by
    unfold parN at hn
    exact of_decide_eq_true hn
  have hr9 := B.2.2.2.2.2.2.2.2.2.1
  have hroom : (rmX d).frames + 1 ≤ R.frames ∧ 8 + (yM z + 11) + (rmX d).locals ≤ R.locals := ⟨hr9.1, by show 8 + (yM z + 11) + 200 * d ≤ R.locals; omega⟩
  have hgw : GoodIn gtb (wsV (Rn cn) idx (yN z).cls (yN z) (wsY z)) := fun w hw => by
    unfold wsV at hw
    rcases List.mem_append.mp hw with q | hw
    · simp only [List.mem_cons, List.not_mem_nil, or_false] at q
      rcases q with rfl | rfl | rfl | rfl
      · exact ⟨hlk, good_of_word (gtb_good hlk)⟩
      · exact ⟨(m6 hst).1, good_of_word (gtb_good (m6 hst).1)⟩
      · exact ⟨(m6 hst).2, good_of_word (gtb_good (m6 hst).2)⟩
      · exact ⟨m2, good_of_word (gtb_good m2)⟩
    · rcases List.mem_cons.mp hw with e | e
      · subst e; exact ⟨m1, good_of_word (gtb_good m1)⟩
      · exact ⟨e, good_of_word (gtb_good e)⟩
  have hb0 : lay b ≠ 0 := by omega
  have hpb := pv_ref (ad := ad) (dom_pos b (lay_dom hb0))
  obtain ⟨q, hq, hw⟩ := wsM_at (ad := ad) (cA := cA) hb0
  have hci : cl - 1 < 12 := by omega
  have hrecv : ∃ cell : Cell, H[ad b]? = some cell ∧ cell.vm.isStatics = false ∧ s.vm.findClass (yN z).cls = some cell.cls := by
    rw [hcl]
    exact va_recv B.2.2.2.2.2.1 hP (cl_cq hci) (by rw [hw, ent_obj hci (by omega)])
  have hpre : PreV s H (yN z).cls (ad b) (PreX D ad cA H.size (.ref b :: as) M) (as.map (pv ad)) := by
    refine ⟨preX_blind, hrecv, fun U hU hW => ?_⟩
    have := pre_call B hP hS (as := .ref b :: as) hU hW
    rw [List.map_cons, hpb] at this
    exact ⟨this, XG_at hS hG hW hU⟩
  have hstk : ((as.reverse ++ .ref b :: rest)).map (pv ad) = (as.map (pv ad)).reverse ++ .ref (ad b) :: rest.map (pv ad) := by rw [List.map_append, List.map_reverse, List.map_cons, hpb]
  rw [List.map_cons, hpb]
  exact vx_runV ⟨B.1, B.2.1, B.2.2.1, B.2.2.2.1, B.2.2.2.2.1⟩ (hE l hst0 D ad cA H.size) (cwV n B.2.2.2.2.1 hgw rfl rfl rfl ⟨rfl, m3.1, m3.2, hnn⟩ hroom) hpre rfl (by rw [List.length_map]; exact has) hsz hstk (lv_room (rest_ok hrest)) hd hcs
end RVX
