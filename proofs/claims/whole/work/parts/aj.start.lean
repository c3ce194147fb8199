/-! ===== the law, from its entry ===== -/
section LWS
variable {p : Program} {l : Launch} {e : Env} {s : State} {m : MethodId} {below : List Frame} {meth : Method} {c : Code} {b : Nat}
variable {D : va_G} {ad : Nat → Nat} {cA : Nat → ClassId}
theorem yB_law : yB 278 = code := rfl
theorem law_rt {N : Nat} (hx : p.tables.exec = Jvm.exec) (hb : c.code = code) (hr : meth.sig.returnType = ret) (hlocks : meth.locks = false) (hge : ∀ a ∈ dom, s.heap.size ≤ ad a) (hN : N ≤ 1000) : RtW p l e room_1 s m #[Value.ref b] below meth c (lw_Z below #[Value.ref b] s) D ad cA 278 (fun g => g ≤ N) (fun g => 187 + g) (fun g => 5517 + 6 * g) RtL := by
  intro r M hr' hg pc H locs ls hP hS hcase
  unfold RtL at hr'
  subst hr'
  rcases hcase with ⟨x, hx', hd, -⟩ | ⟨x, hx', -⟩ | ⟨x, z, hx', -⟩ | ⟨hx', -⟩
  · have hd : decode code pc = .ok (.ireturn, 1) := hd
    have hg : gh M ≤ N := hg
    refine va_forget (fun q hq => ?_) (W.widen (k := 601024) (n := 7293034) (by show 187 + gh M ≤ _; omega) (by show 5517 + 6 * gh M ≤ _; omega) ?_)
    · rcases hS.2.2 q hq with ⟨a, ha, z⟩ | z
      · rw [z]; exact hge a ha
      · exact z
    · have h := lw_ret (p := p) (l := l) (e := e) (s := s) (m := m) (below := below) (b := b) (H := H) (ls := ls) hx hb hr hlocks hd
      have e1 : (1 : Int32) = I 1 := rfl
      rw [e1] at h
      exact h
  · cases hx'
  · cases hx'
  · cases hx'
theorem law_loop {n : Nat} {f : Nat → Int32} (hx : p.tables.exec = Jvm.exec) (hb : c.code = code) (hr : meth.sig.returnType = ret) (hlocks : meth.locks = false) (hge : ∀ a ∈ dom, s.heap.size ≤ ad a) (hn : n ≤ 3072) (hst0 : l.stackTraces = false) (hXG : XG (AA ad s.heap.size) s s.heap) (hSc : ScW true s ad (n, f))
    (BB : ∀ k, k ≤ 1000 → Bd p room_1 s m #[Value.ref b] c D ad cA 278 14 40 (fun g => g ≤ k) (fun g => 187 + g) (fun g => 5517 + 6 * g)) :
    ∀ (j k i : Nat) (M : Mm), i = 6 * k → i ≤ n → n ≤ i + j → JJJ M → AtW p l e room_1 s m #[Value.ref b] below meth c (lw_Z below #[Value.ref b] s) D ad cA 278 (fun g => g ≤ k) (fun g => 187 + g) (fun g => 5517 + 6 * g) 23 (LLx (I (i : Int))) [] M := by
  intro j
  induction j with
  | zero =>
    intro k i M hk hi hj hJ hg H locs ls hl hP hS
    have hg : gh M ≤ k := hg
    have hB := BB (k + 1) (by omega)
    have step : StepL (k + 1) n f (AtW p l e room_1 s m #[Value.ref b] below meth c (lw_Z below #[Value.ref b] s) D ad cA 278 (fun g => g ≤ k + 1) (fun g => 187 + g) (fun g => 5517 + 6 * g)) := fun C hC pc hpc L S M hw => by
      cases C with
      | nil => cases hpc
      | cons o r =>
        have h := sndJ hB hC (fun z hz as M v M' h => h.1 hz) (law_rt hx hb hr hlocks hge (by omega)) hSc (c11 hB hst0 hXG) 1000 _ hC L S M o r rfl hw
        have e : o.1 = pc := Option.some.inj hpc
        rw [e] at h
        exact h
    exact l_head step hn hi (by omega) hJ (fun h6 => absurd h6 (by omega)) (show gh M ≤ k + 1 by omega) H locs ls hl hP hS
  | succ j ih =>
    intro k i M hk hi hj hJ hg H locs ls hl hP hS
    have hg : gh M ≤ k := hg
    have hB := BB (k + 1) (by omega)
    have step : StepL (k + 1) n f (AtW p l e room_1 s m #[Value.ref b] below meth c (lw_Z below #[Value.ref b] s) D ad cA 278 (fun g => g ≤ k + 1) (fun g => 187 + g) (fun g => 5517 + 6 * g)) := fun C hC pc hpc L S M hw => by
      cases C with
      | nil => cases hpc
      | cons o r =>
        have h := sndJ hB hC (fun z hz as M v M' h => h.1 hz) (law_rt hx hb hr hlocks hge (by omega)) hSc (c11 hB hst0 hXG) 1000 _ hC L S M o r rfl hw
        have e : o.1 = pc := Option.some.inj hpc
        rw [e] at h
        exact h
    exact l_head step hn hi (by omega) hJ (fun h6 M' hJ' => l_inc step (ih (k + 1) (i + 6) M' (by omega) h6 (by omega) hJ')) (show gh M ≤ k + 1 by omega) H locs ls hl hP hS
end LWS
set_option maxHeartbeats 4000000 in
set_option maxRecDepth 100000 in
/-- from the entry, for every script of at most 3072 ints, the law comes to its end with true -/
theorem whole_start {p : Program} {e : Env} {s : State} {m : MethodId} {below : List Frame} {meth : Method} {c : Code} (l : Launch) (hflags : l.flags = flags0) {b L : Nat} {xs : Nat → Int32} (hL : L ≤ 3072) (C0 : lw_At p s m meth c b L xs) : W p l e room_1 s m #[Value.ref b] below meth c s.heap [] 0 0 (lw_Z below #[Value.ref b] s) (entryFrame m ([Value.ref b] : List Value).toArray 7) := by
  obtain ⟨hx, hb, hr, hml, hown, hts, hX, hbl, hlocks, hgv⟩ := C0
  have hst0 : l.stackTraces = false := by
    unfold Launch.stackTraces
    rw [hflags]
    decide +kernel
  have hf := nwL_ok hgv
  obtain ⟨D, cA, hK⟩ := k_start hts
  obtain ⟨en, t0, t1, w1, w2, w3, w4, w5, w6⟩ := sx_start (A := fun q : Nat => s.heap.size ≤ q) hts hf (fun a ha => Nat.not_le.mpr ha)
  have hxg := xg_start (A := fun q : Nat => s.heap.size ≤ q) hts hf (fun a ha => Nat.not_le.mpr ha)
  obtain ⟨ad0, had⟩ : ∃ ad0 : Nat → Nat, ad0 = fun a => if a = 501 then b else if a = 650 then t0 else if a = 651 then t1 else en (a - 600) := ⟨_, rfl⟩
  have a501 : ad0 501 = b := by rw [had]; rfl
  have a650 : ad0 650 = t0 := by rw [had]; rfl
  have a651 : ad0 651 = t1 := by rw [had]; rfl
  have aen : ∀ i, i < 23 → ad0 (600 + i) = en i := fun i hi => by
    rw [had]
    show (if 600 + i = 501 then b else if 600 + i = 650 then t0 else if 600 + i = 651 then t1 else en (600 + i - 600)) = _
    rw [if_neg (by omega), if_neg (by omega), if_neg (by omega), show 600 + i - 600 = i by omega]
  have hg : ∀ w ∈ gtb, w.before #[Value.ref b] s = true := fun w hw => hts w (List.mem_filter.mp hw).1
  have hB : BdC p room_1 s m #[Value.ref b] meth c D cA code 7 14 6 false := ⟨hx, hb, hml, hown, hg, hK, wx_start hts, ⟨by decide, by decide⟩, fun q => by cases q⟩
  have hfin : ((false : Bool) = true → decode code 23 = .ok (.return_, 1)) → AtC p l e room_1 s m #[Value.ref b] below meth c (lw_Z below #[Value.ref b] s) D cA 7 [] ad0 23 [.ref 501, .ref 1, .ref 400, .ref 500, .int (I 0), .retAddr 0, .retAddr 0] [] sF 187 5517 := by
    intro _ ad H locs ls h1 _ hl hW hS
    have hW : CWd D cA ad dmF M0 (A0 ad0 [] s.heap.size) H := hW
    have hA0 : ∀ q, A0 ad0 [] s.heap.size q → s.heap.size ≤ q := fun q hq => hq.elim (fun ⟨_, z, _⟩ => by cases z) id
    obtain ⟨hP, hD⟩ := wsM_of hW
    have hge : ∀ a ∈ dom, s.heap.size ≤ ad a := fun a ha => by
      obtain ⟨q, hq, hw⟩ := wsM_at (ad := ad) (cA := cA) (dom_lay a ha)
      exact hA0 _ (hD.2 q (ad a, ent ad cA M0 a) (hw M0))
    have nar : ∀ q, AA ad s.heap.size q → s.heap.size ≤ q := fun q hq => hq.elim (fun ⟨a, ha, z⟩ => by rw [z]; exact hge a ha) id
    have k501 : ad 501 = b := (h1 501 (Or.inr (Or.inl rfl))).trans a501
    have k650 : ad 650 = t0 := (h1 650 (Or.inr (Or.inr ⟨by decide, by decide⟩))).trans a650
    have k651 : ad 651 = t1 := (h1 651 (Or.inr (Or.inr ⟨by decide, by decide⟩))).trans a651
    have ken : ∀ i, i < 23 → ad (600 + i) = en i := fun i hi => (h1 (600 + i) (Or.inr (Or.inr ⟨by omega, by omega⟩))).trans (aen i hi)
    have hlen : wordN.length = 23 := rfl
    have hSx0 : Sx ad (fun q : Nat => s.heap.size ≤ q) s s.heap := by
      refine ⟨⟨fun i hi => ?_, fun i j hi hj q => ?_⟩, fun i hi => ?_, ?_, ?_, ?_, ?_⟩
      · dsimp only
        rw [ken i hi]
        exact w1.1 i hi
      · dsimp only at q
        rw [ken i hi, ken j hj] at q
        exact w1.2 i j hi hj q
      · dsimp only
        rw [ken i hi]
        exact w2 i hi
      · rw [k651]; exact w3
      · rw [k651]
        obtain ⟨cell, c1, c2, c3, c4, c5, c6, c7⟩ := w4
        exact ⟨cell, c1, c2, c3, c4, c5, fun j hj => by
          show cell.slots[j]? = some (Value.ref (ad (600 + j)))
          rw [ken j hj]
          exact c6 j hj, c7⟩
      · rw [k650]; exact w5
      · rw [k650]; exact w6
    have hSx : Sx ad (AA ad s.heap.size) s s.heap := hSx0.narrow nar
    have hXG : XG (AA ad s.heap.size) s s.heap := ⟨hxg.1, hxg.2.1.narrow nar, hxg.2.2.1.narrow nar, hxg.2.2.2⟩
    have hD0 : va_D (fun _ => True) (wsM ad cA M00) := wsM_D (hD.weaken fun _ _ _ _ => trivial)
    have BB : ∀ k, k ≤ 1000 → Bd p room_1 s m #[Value.ref b] c D ad cA 278 14 40 (fun g => g ≤ k) (fun g => 187 + g) (fun g => 5517 + 6 * g) := fun k hk =>
      ⟨hx, hb, hml, hown, hg, hK, hD0, hSx, nx_start hts, ⟨by decide, by decide⟩, fun g hgk => ⟨by show 187 + g ≤ 601024; omega, by show 5517 + 6 * g ≤ 7293034; omega⟩⟩
    have hSc : ScW true s ad (L, xs) := fun _ => ⟨by rw [k501]; exact hX, by rw [k501]; exact hbl, fun q => by rw [k501] at q; exact absurd (nar b q) (Nat.not_le.mpr hbl)⟩
    have hS' : va_S (AA ad s.heap.size) s.heap H locs := ⟨hS.1, fun q q1 q2 => hS.2.1 q q1 fun z => absurd (hA0 q z) (Nat.not_le.mpr q1), fun z hz => Or.inr (hA0 _ (hS.2.2 z hz))⟩
    have h9 := law_loop (e := e) (below := below) hx hb hr hlocks hge hL hst0 hXG hSc BB (L + 1) 0 0 M0 rfl (Nat.zero_le _) (by omega) M0_JJJ (show gh M0 ≤ 0 by rw [M0_gh]; exact Nat.le_refl 0) H locs ls hl hP hS'
    dsimp only at h9
    rw [M0_gh] at h9
    exact h9
  have hrun : crun (cexec 6) 187 5517 kLaw0 200 kLaw0 [.ref 501, .retAddr 0, .retAddr 0, .retAddr 0, .retAddr 0, .retAddr 0, .retAddr 0] [] (dmF, [], [], [], []) 0 0 = some (false, 23, [.ref 501, .ref 1, .ref 400, .ref 500, .int (I 0), .retAddr 0, .retAddr 0], [], sF, 187, 5517) := law_run
  have hgo := csnd (l := l) (e := e) (below := below) (res := (false, 23, [.ref 501, .ref 1, .ref 400, .ref 500, .int (I 0), .retAddr 0, .retAddr 0], [], sF, 187, 5517)) hB (lc := 187) (lsl := 5517) (C := kLaw0) (by decide) (by decide) kchkL (evC_of 6) hfin 200 kLaw0 kchkL [.ref 501, .retAddr 0, .retAddr 0, .retAddr 0, .retAddr 0, .retAddr 0, .retAddr 0] [] (dmF, [], [], [], []) 0 0 hrun _ _ rfl
  have hl := lv_entry ([.ref b]) (n := 7) (Nat.le_of_ble_eq_true rfl)
  rw [lg_entry_eq]
  have hW0 : CWd D cA ad0 [] (mC (dmF, [], [], [], [])) (A0 ad0 [] s.heap.size) s.heap := by
    refine ⟨fun k q h => ?_, ⟨fun i j p q h => ?_, fun k q h => ?_⟩, List.nodup_nil, fun a h => absurd h List.not_mem_nil, ⟨fun a k => Or.inl rfl, fun a _ k => ⟨rfl, rfl, rfl⟩⟩⟩
    · simp [wsC] at h
    · simp [wsC] at h
    · simp [wsC] at h
  refine hgo ad0 s.heap [] _ (fun _ _ => rfl) (fun _ h => h) ⟨hl.1, hl.2.1, Nat.le_refl 7, fun i v hi hv => ?_⟩ hW0 va_S.rf
  match i, hi with
  | 0, hi =>
    cases hi
    rw [pv_ref (by decide), a501]
    exact hl.2.2 (0, .ref b) List.mem_cons_self
  | 1, hi => cases hi; cases hv
  | 2, hi => cases hi; cases hv
  | 3, hi => cases hi; cases hv
  | 4, hi => cases hi; cases hv
  | 5, hi => cases hi; cases hv
  | 6, hi => cases hi; cases hv
  | i + 7, hi => simp at hi
