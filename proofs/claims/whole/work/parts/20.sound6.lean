section SN6
variable {p : Program} {l : Launch} {e : Env} {R : Room} {s : State} {m : MethodId} {args : Array Value} {below : List Frame} {meth : Method} {c : Code} {Q : State → Prop}
variable {D : va_G} {ad : Nat → Nat} {cA : Nat → ClassId} {y cn d : Nat} {G : Nat → Prop} {cf sf : Nat → Nat} {pc : Nat} {L S : List Value} {M : Mm}
theorem condT {b : Bool} {P : Prop} (h : cond b P False) : b = true ∧ P := by
  cases b with
  | false => exact h.elim
  | true => exact ⟨rfl, h⟩
theorem o_mmax (B : Bd p R s m args c D ad cA y cn d G cf sf) {K : List Value → Mm → Prop} {idx : Nat} (hd : decode (yB y) pc = .ok (.invokestatic idx, 3)) (w1 : Cond.methodLink (Rn cn) idx Lib.Math.max.name ∈ gtb) (w2 : Cond.static Lib.Math.max.name ∈ gtb) (w3 : Cond.initialized "java/lang/Math" ∈ gtb) (w4 : Cond.code Lib.Math.max.name Lib.Math.max.code 2 (some .int) ∈ gtb) (ih : ∀ S M, K S M → AtW p l e R s m args below meth c Q D ad cA y G cf sf (pc + 3) L S M)
    (h : popI S fun y r => popI r fun x r => cond (Nat.ble r.length 4) (K (.int (if x < y then y else x) :: r) M) False) : AtW p l e R s m args below meth c Q D ad cA y G cf sf pc L S M := by
  obtain ⟨b, r1, rfl, h1⟩ := popI_e h
  obtain ⟨a, r, rfl, h2⟩ := popI_e h1
  obtain ⟨h3, h4⟩ := condT h2
  intro hg H locs ls hl hP hS
  have hr9 := B.2.2.2.2.2.2.2.2.2.1
  have hcs := B.2.2.2.2.2.2.2.2.2.2 _ hg
  have hro := rest_ok (ad := ad) (Nat.le_of_ble_eq_true h3)
  exact va_mmax B.1 B.2.1 (B.2.2.1.trans hl.1.symm) B.2.2.2.1 (B.2.2.2.2.1 _ w1) (B.2.2.2.2.1 _ w2) (B.2.2.2.2.1 _ w3) (B.2.2.2.2.1 _ w4) (by omega) (by omega) hcs.1 hcs.2 hd (ih _ _ h4 hg H locs ls hl hP hS)
theorem o_mmin (B : Bd p R s m args c D ad cA y cn d G cf sf) {K : List Value → Mm → Prop} {idx : Nat} (hd : decode (yB y) pc = .ok (.invokestatic idx, 3)) (w1 : Cond.methodLink (Rn cn) idx Lib.Math.min.name ∈ gtb) (w2 : Cond.static Lib.Math.min.name ∈ gtb) (w3 : Cond.initialized "java/lang/Math" ∈ gtb) (w4 : Cond.code Lib.Math.min.name Lib.Math.min.code 2 (some .int) ∈ gtb) (ih : ∀ S M, K S M → AtW p l e R s m args below meth c Q D ad cA y G cf sf (pc + 3) L S M)
    (h : popI S fun y r => popI r fun x r => cond (Nat.ble r.length 4) (K (.int (if y < x then y else x) :: r) M) False) : AtW p l e R s m args below meth c Q D ad cA y G cf sf pc L S M := by
  obtain ⟨b, r1, rfl, h1⟩ := popI_e h
  obtain ⟨a, r, rfl, h2⟩ := popI_e h1
  obtain ⟨h3, h4⟩ := condT h2
  intro hg H locs ls hl hP hS
  have hr9 := B.2.2.2.2.2.2.2.2.2.1
  have hcs := B.2.2.2.2.2.2.2.2.2.2 _ hg
  have hro := rest_ok (ad := ad) (Nat.le_of_ble_eq_true h3)
  exact va_mmin B.1 B.2.1 (B.2.2.1.trans hl.1.symm) B.2.2.2.1 (B.2.2.2.2.1 _ w1) (B.2.2.2.2.1 _ w2) (B.2.2.2.2.1 _ w3) (B.2.2.2.2.1 _ w4) (by omega) (by omega) hcs.1 hcs.2 hd (ih _ _ h4 hg H locs ls hl hP hS)
theorem nfw : nativeFrameWords "java/lang/System" "arraycopy" 5 = 7 := by decide +kernel
theorem o_cpyI (B : Bd p R s m args c D ad cA y cn d G cf sf) {K : List Value → Mm → Prop} {idx : Nat} (hd : decode (yB y) pc = .ok (.invokestatic idx, 3)) (w1 : Cond.methodLink (Rn cn) idx arraycopyName ∈ gtb) (w2 : Cond.native arraycopyName ∈ gtb) (w3 : Cond.static arraycopyName ∈ gtb) (w4 : Cond.initialized "java/lang/System" ∈ gtb) (ih : ∀ S M, K S M → AtW p l e R s m args below meth c Q D ad cA y G cf sf (pc + 3) L S M)
    (h : popI S fun n r => popI r fun dp r => popA r fun b r => popI r fun sp r => popA r fun a r => cond (Nat.ble r.length 4) True False ∧ lay a = 100 ∧ lay b = 100 ∧ ¬ sp < 0 ∧ ¬ dp < 0 ∧ ¬ n < 0 ∧ sp.toNatClampNeg + n.toNatClampNeg ≤ alen a ∧ dp.toNatClampNeg + n.toNatClampNeg ≤ alen b ∧ K r (upr M.1 b (cpf (M.1 a) (M.1 b) sp.toNatClampNeg dp.toNatClampNeg n.toNatClampNeg), M.2)) : AtW p l e R s m args below meth c Q D ad cA y G cf sf pc L S M := by
  obtain ⟨n, r1, rfl, h1⟩ := popI_e h
  obtain ⟨dp, r2, rfl, h2⟩ := popI_e h1
  obtain ⟨b, r3, rfl, h3⟩ := popA_e h2
  obtain ⟨sp, r4, rfl, h4⟩ := popI_e h3
  obtain ⟨a, r, rfl, h5, ha, hb, g1, g2, g3, g4, g5, h6⟩ := popA_e h4
  obtain ⟨h5, -⟩ := condT h5
  intro hg H locs ls hl hP hS
  have hr9 := B.2.2.2.2.2.2.2.2.2.1
  have hro := rest_ok (ad := ad) (Nat.le_of_ble_eq_true h5)
  have ha0 : lay a ≠ 0 := by omega
  have hb0 : lay b ≠ 0 := by omega
  obtain ⟨q, hq, hw⟩ := wsM_at (ad := ad) (cA := cA) ha0
  obtain ⟨q1, hq1, hw1⟩ := wsM_at (ad := ad) (cA := cA) hb0
  have h7 := ih _ _ h6 hg
  rw [List.map_cons, List.map_cons, List.map_cons, List.map_cons, List.map_cons, pv_ref (dom_pos a (lay_dom ha0)), pv_ref (dom_pos b (lay_dom hb0))]
  refine va_copyi B.1 B.2.1 (B.2.2.1.trans hl.1.symm) B.2.2.2.1 (B.2.2.2.2.1 _ w1) (B.2.2.2.2.1 _ w2) (B.2.2.2.2.1 _ w3) (B.2.2.2.2.1 _ w4) B.2.2.2.2.2.1 hP B.dd hS q q1 0 0 (by rw [hw, ent_100 ha]) (by rw [hw1, ent_100 hb]) rfl rfl rfl g1 g2 g3 g4 g5 (fun _ _ => rfl) (by omega) (by rw [nfw]; omega) hd fun H1 locs1 hP1 _ hS1 => ?_
  rw [wsM_set hq1 (M' := (upr M.1 b (cpf (M.1 a) (M.1 b) sp.toNatClampNeg dp.toNatClampNeg n.toNatClampNeg), M.2)) (by
    rw [ent_100 hb]
    show _ = (Sum.inl (cA 0, alen b, Sum.inl (upr M.1 b _ b)) : va_E)
    rw [upr_eq]
    rfl) (fun z hz => ent_of (upr_ne hz) rfl rfl)] at hP1
  exact h7 H1 locs1 ls hl hP1 hS1
theorem o_cpyL (B : Bd p R s m args c D ad cA y cn d G cf sf) {K : List Value → Mm → Prop} {idx : Nat} (hd : decode (yB y) pc = .ok (.invokestatic idx, 3)) (w1 : Cond.methodLink (Rn cn) idx arraycopyName ∈ gtb) (w2 : Cond.native arraycopyName ∈ gtb) (w3 : Cond.static arraycopyName ∈ gtb) (w4 : Cond.initialized "java/lang/System" ∈ gtb) (ih : ∀ S M, K S M → AtW p l e R s m args below meth c Q D ad cA y G cf sf (pc + 3) L S M)
    (h : popI S fun n r => popI r fun dp r => popA r fun b r => popI r fun sp r => popA r fun a r => cond (Nat.ble r.length 4) True False ∧ lay a = 101 ∧ lay b = 101 ∧ ¬ sp < 0 ∧ ¬ dp < 0 ∧ ¬ n < 0 ∧ sp.toNatClampNeg + n.toNatClampNeg ≤ alen a ∧ dp.toNatClampNeg + n.toNatClampNeg ≤ alen b ∧ K r (M.1, upr M.2.1 b (cpf (M.2.1 a) (M.2.1 b) sp.toNatClampNeg dp.toNatClampNeg n.toNatClampNeg), M.2.2)) : AtW p l e R s m args below meth c Q D ad cA y G cf sf pc L S M := by
  obtain ⟨n, r1, rfl, h1⟩ := popI_e h
  obtain ⟨dp, r2, rfl, h2⟩ := popI_e h1
  obtain ⟨b, r3, rfl, h3⟩ := popA_e h2
  obtain ⟨sp, r4, rfl, h4⟩ := popI_e h3
  obtain ⟨a, r, rfl, h5, ha, hb, g1, g2, g3, g4, g5, h6⟩ := popA_e h4
  obtain ⟨h5, -⟩ := condT h5
  intro hg H locs ls hl hP hS
  have hr9 := B.2.2.2.2.2.2.2.2.2.1
  have hro := rest_ok (ad := ad) (Nat.le_of_ble_eq_true h5)
  have ha0 : lay a ≠ 0 := by omega
  have hb0 : lay b ≠ 0 := by omega
  obtain ⟨q, hq, hw⟩ := wsM_at (ad := ad) (cA := cA) ha0
  obtain ⟨q1, hq1, hw1⟩ := wsM_at (ad := ad) (cA := cA) hb0
  have h7 := ih _ _ h6 hg
  rw [List.map_cons, List.map_cons, List.map_cons, List.map_cons, List.map_cons, pv_ref (dom_pos a (lay_dom ha0)), pv_ref (dom_pos b (lay_dom hb0))]
  refine va_copyl B.1 B.2.1 (B.2.2.1.trans hl.1.symm) B.2.2.2.1 (B.2.2.2.2.1 _ w1) (B.2.2.2.2.1 _ w2) (B.2.2.2.2.1 _ w3) (B.2.2.2.2.1 _ w4) B.2.2.2.2.2.1 hP B.dd hS q q1 1 1 (by rw [hw, ent_101 ha]) (by rw [hw1, ent_101 hb]) rfl rfl rfl g1 g2 g3 g4 g5 (fun _ _ => rfl) (by omega) (by rw [nfw]; omega) hd fun H1 locs1 hP1 _ hS1 => ?_
  rw [wsM_set (M := M) hq1 (M' := (M.1, upr M.2.1 b (cpf (M.2.1 a) (M.2.1 b) sp.toNatClampNeg dp.toNatClampNeg n.toNatClampNeg), M.2.2)) (by
    rw [ent_101 hb]
    show _ = (Sum.inl (cA 1, alen b, Sum.inr (Sum.inl (upr M.2.1 b _ b))) : va_E)
    rw [upr_eq]
    rfl) (fun z hz => ent_of rfl (upr_ne hz) rfl)] at hP1
  exact h7 H1 locs1 ls hl hP1 hS1
/-! Enum.ordinal() -/
theorem d_ord_0 : decode cJx29ce0_ordinal_8abf5 0 = .ok (.aload_n 0, 1) := by decide +kernel
theorem d_ord_1 : decode cJx29ce0_ordinal_8abf5 1 = .ok (.getfield 7, 3) := by decide +kernel
theorem d_ord_4 : decode cJx29ce0_ordinal_8abf5 4 = .ok (.ireturn, 1) := by decide +kernel
def wsOrd : List Cond := .code yOrd cJx29ce0_ordinal_8abf5 1 (some .int) :: [.fieldLink RJx29ce0 7 "java/lang/Enum" "ordinal" "I"]
theorem ordM (l : Launch) (A : Nat → Prop) {i : Nat} (hi : i < 23) : Met l yOrd wsOrd (rmD 0) (va_Pc [.ref (ad (600 + i))] (fun U => Sx ad A U U.heap)) (fun _ st oc t => oc = .returned (some (.int (I (i : Int)))) ∧ t.heap = st.heap) 0 0 (fun _ => False) := by
  refine Met.ofW (cc := cJx29ce0_ordinal_8abf5) (maxL := 1) (ret := some .int) (by decide +kernel) rfl ?_
  intro p e s m args below meth c s₁ B hml hv
  obtain ⟨rfl, hSx⟩ := hv
  have hx := B.exec
  have hb := B.bytes
  have hr := B.returns
  have hts := atoms_spec (ws := wsOrd) B.pre
  have hown : s.vm.findClass RJx29ce0 = some m.cls := findClass_of_methodNamed B.named
  have hlocks := B.notSynchronized
  have hS : va_S A s.heap s.heap [] := va_S.rf
  have hl := lv_entry ([.ref (ad (600 + i))]) (n := 1) (Nat.le_of_ble_eq_true rfl)
  rw [lg_entry_eq]
  generalize (lg_sl ([.ref (ad (600 + i))]) ++ List.replicate (1 - (lg_sl ([.ref (ad (600 + i))])).length) Slot.unset).toArray = ls at hl ⊢
  refine lv_aload_n hx hb d_ord_0 rfl (lv_at hl 0 rfl) ?_
  have hq : ("java/lang/Enum", "ordinal", "I", (List.range 23).map fun k : Nat => I (k : Int)) ∈ ordF := List.mem_cons_self
  refine va_getE (q := ("java/lang/Enum", "ordinal", "I", (List.range 23).map fun k : Nat => I (k : Int))) hx hb hSx.1 (i := i) hi hS hown hq (hts _ (by unfold wsOrd; simp)) (fun _ q => q) d_ord_1 ?_
  have he : ((List.range 23).map fun k : Nat => I (k : Int)).getD i 0 = I (i : Int) := by
    rw [List.getD_eq_getElem?_getD, List.getElem?_map, List.getElem?_range hi]
    rfl
  dsimp only
  rw [he]
  exact W.iret hx hb hr (fun t ht _ => ⟨rfl, ht⟩) (fun q hq => by cases hq) d_ord_4
theorem o_ord (B : Bd p R s m args c D ad cA y cn d G cf sf) {K : List Value → Mm → Prop} {idx : Nat} (hd : decode (yB y) pc = .ok (.invokevirtual idx, 3)) (w1 : Cond.methodLink (Rn cn) idx xOrd ∈ gtb) (w2 : Cond.sameMethod xOrd.cls "java/lang/Enum" xOrd.name xOrd.desc ∈ gtb) (w3 : Cond.selects RX11 xOrd yOrd ∈ gtb) (w4 : Cond.instanceMethod yOrd ∈ gtb) (w5 : Cond.initialized yOrd.cls ∈ gtb) (w6 : Cond.code yOrd cJx29ce0_ordinal_8abf5 1 (some .int) ∈ gtb) (w7 : Cond.fieldLink RJx29ce0 7 "java/lang/Enum" "ordinal" "I" ∈ gtb) (ih : ∀ S M, K S M → AtW p l e R s m args below meth c Q D ad cA y G cf sf (pc + 3) L S M)
    (h : popA S fun a r => cond (Nat.ble r.length 4) True False ∧ (600 ≤ a ∧ a < 623) ∧ K (.int (I ((a - 600 : Nat) : Int)) :: r) M) : AtW p l e R s m args below meth c Q D ad cA y G cf sf pc L S M := by
  obtain ⟨a, r, rfl, h1, ha, h2⟩ := popA_e h
  obtain ⟨h1, -⟩ := condT h1
  intro hg H locs ls hl hP hS
  have hr9 := B.2.2.2.2.2.2.2.2.2.1
  have hcs := B.2.2.2.2.2.2.2.2.2.2 _ hg
  have h3 := ih _ _ h2 hg H locs ls hl hP hS
  have hi : a - 600 < 23 := by omega
  have hea : 600 + (a - 600) = a := by omega
  have hSx := (B.2.2.2.2.2.2.2.1.kept (fun a h1 h2 => hS.2.1 a h1 h2))
  have hM := ordM (ad := ad) l (AA ad s.heap.size) hi
  rw [hea] at hM
  rw [List.map_cons, pv_ref (show a ≠ 0 by omega)]
  have hgw : GoodIn gtb (va_wsU (Rn cn) idx RX11 "java/lang/Enum" xOrd yOrd wsOrd) := fun w hw => by
    unfold va_wsU wsOrd at hw
    rcases List.mem_append.mp hw with q | q
    · simp only [List.mem_cons, List.not_mem_nil, or_false] at q
      rcases q with rfl | rfl | rfl | rfl | rfl
      · exact ⟨w1, good_of_word (gtb_good w1)⟩
      · exact ⟨w2, good_of_word (gtb_good w2)⟩
      · exact ⟨w3, good_of_word (gtb_good w3)⟩
      · exact ⟨w4, good_of_word (gtb_good w4)⟩
      · exact ⟨w5, good_of_word (gtb_good w5)⟩
    · simp only [List.mem_cons, List.not_mem_nil, or_false] at q
      rcases q with rfl | rfl
      · exact ⟨w6, good_of_word (gtb_good w6)⟩
      · exact ⟨w7, good_of_word (gtb_good w7)⟩
  have hrecv : ∃ cell : Cell, H[ad a]? = some cell ∧ cell.vm.isStatics = false ∧ s.vm.findClass RX11 = some cell.cls := by
    have := va_recvE (s := s) (H := H) (locs := locs) (i := a - 600) B.2.2.2.2.2.2.2.1.1 hi hS
    rw [hea] at this
    exact this
  have hpre : PreV s H RX11 (ad a) (va_Pc [.ref (ad a)] (fun U => Sx ad (AA ad s.heap.size) U U.heap)) [] := by
    refine ⟨fun a U g mk ⟨q1, q2⟩ => ⟨q1, Sx.moved (u := U) (U := U.calling g mk a) (Vm.Alike.refl U.vm) q2⟩, hrecv, fun U hU hW => ⟨rfl, ?_⟩⟩
    show Sx ad (AA ad s.heap.size) U U.heap
    rw [hU]
    exact hSx.moved hW.alike
  have hrun := va_runU (l := l) (e := e) (locs := locs) (below := below) (meth := meth) (rest := r.map (pv ad)) (g := F0 m pc ls (.ref (ad a) :: r.map (pv ad))) ⟨B.1, B.2.1, B.2.2.1, B.2.2.2.1, B.2.2.2.2.1⟩ hM (va_cwU 0 B.2.2.2.2.1 hgw rfl rfl rfl rfl ⟨by decide +kernel, by decide +kernel, by decide +kernel⟩ ⟨by show 0 + 1 ≤ R.frames; omega, by show 8 + (1 + 11) + 200 * 0 ≤ R.locals; omega⟩) hpre rfl rfl hl.1 rfl (lv_room (rest_ok (Nat.le_of_ble_eq_true h1))) hd (show cf (gh M) + 0 ≤ R.cells ∧ sf (gh M) + 0 ≤ R.slots from hcs)
  intro T hT X
  obtain ⟨v, st₀, t, T', L9, h0, X', hL, e1, e2, ⟨hv, hh⟩, st⟩ := hrun T hT X
  cases hv
  obtain ⟨t2, a1, b1⟩ := h3 T' (by rw [e1, hh, h0]) (Stand.forget X' (fun q h => (hL q h).elim))
  exact ⟨t2, st t2 a1, b1⟩
end SN6
