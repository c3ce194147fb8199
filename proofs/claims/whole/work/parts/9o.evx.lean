/-! ===== a method that returns or throws: its contract ===== -/
abbrev xT1 : String := "no such HOUSE, or nothing such is told of it"
abbrev xT2 : String := "no such bags, no such number of a fraction, or no crests"
abbrev xT3 : String := "no such inches, no such number of a fraction, or no crest is so high"
/-- what a throw needs of the world -/
def XG (A : Nat → Prop) (U : State) (H : Heap) : Prop := (∀ w ∈ xWs, w.before #[] U = true) ∧ vx_Zq Bundle.tN "UNASSIGNED_STACK" Bundle.steD A U H ∧ vx_Zq Bundle.tN "SUPPRESSED_SENTINEL" Bundle.listD A U H ∧ (∃ a, vk_R "BagsRiver" 167 xT1 a U) ∧ (∃ a, vk_R "BagsRiver" 310 xT2 a U) ∧ ∃ a, vk_R "BagsRiver" 328 xT3 a U
def rmX (d : Nat) : Room := { frames := d, cells := 1, slots := 6, locals := 200 * d }
def PreX (D : va_G) (ad : Nat → Nat) (cA : Nat → ClassId) (sz : Nat) (args : List Value) (M : Mm) : Array Value → State → Prop := fun a U => PreE D ad cA sz args M a U ∧ XG (AA ad sz) U U.heap
theorem XG_calling {A : Nat → Prop} {U : State} {g : JFrame} {mk : MethodId} {a : Array Value} (h : XG A U U.heap) : XG A (U.calling g mk a) (U.calling g mk a).heap := by
  obtain ⟨h1, h2, h3, ⟨a1, h4⟩, ⟨a2, h5⟩, ⟨a3, h6⟩⟩ := h
  have hv : (U.calling g mk a).vm = U.vm := rfl
  have hl : U.vm.Alike (U.calling g mk a).vm := Vm.Alike.refl U.vm
  exact ⟨fun w hw => vx_ot_at (State.WarmedH.refl U) rfl (List.all_eq_true.mp xW2 w hw) (h1 w hw), vx_Zq.moved hl h2, vx_Zq.moved hl h3, ⟨a1, vk_R.same hv h4⟩, ⟨a2, vk_R.same hv h5⟩, ⟨a3, vk_R.same hv h6⟩⟩
theorem preX_blind {D : va_G} {ad : Nat → Nat} {cA : Nat → ClassId} {sz : Nat} {args : List Value} {M : Mm} : FrameBlind (PreX D ad cA sz args M) := fun a U g mk h => ⟨preE_blind a U g mk h.1, XG_calling h.2⟩
def PostX (ok : Prop) (D : va_G) (ad : Nat → Nat) (cA : Nat → ClassId) (sz : Nat) (r : Option Value) (M M' : Mm) : Array Value → State → Outcome → State → Prop := fun a st oc t => PostE D ad cA sz r M M' a st oc t ∧ ok
/-- what is thrown leaves the memory as it was -/
def XCX (ok : Prop) (D : va_G) (ad : Nat → Nat) (cA : Nat → ClassId) (sz : Nat) (M : Mm) : String → State → State → Prop := vx_X (fun _ : Unit => ¬ ok) (fun E _ t => E = xE ∧ va_P D vwCl (wsM ad cA M) t.heap) (AA ad sz)
/-- method y at these arguments and this memory: if ok, it returns r and leaves M'; if not, it throws -/
def EvX (d : Nat) (y : Nat) (args : List Value) (M : Mm) (ok : Prop) (r : Option Value) (M' : Mm) : Prop := ∀ (l : Launch), l.stackTraces = false → ∀ (D : va_G) (ad : Nat → Nat) (cA : Nat → ClassId) (sz : Nat), vx_Met l (yN y) (wsY y) (rmX d) (PreX D ad cA sz args M) (PostX ok D ad cA sz r M M') (XCX ok D ad cA sz M) 1 6 (AA ad sz)
theorem w_wide {p : Program} {l : Launch} {e : Env} {R : Room} {s : State} {m : MethodId} {args : Array Value} {below : List Frame} {meth : Method} {c : Code} {H : Heap} {locs : List Loc} {cells slots k n : Nat} {Q : State → Prop} {g : JFrame} (h1 : cells ≤ k) (h2 : slots ≤ n) (kk : W p l e R s m args below meth c H locs k n Q g) : W p l e R s m args below meth c H locs cells slots Q g := fun T hT X => kk T hT (stand_widen X h1 h2)
theorem EvX.intro {y d : Nat} {C : List Op} {args L0 : List Value} {M M' : Mm} {r : Option Value} {ok : Prop} {pcT nT is : Nat} {text : String} (hk : chkT false y 12 C = true) (k2 : Rn 12 = (yN y).cls) (k3 : plainName (yN y).cls = true) (k4 : Nat.ble (entL args).length (yM y) = true) (k6 : hdP C = some 0) (hL : L0 = entL args ++ List.replicate (yM y - (entL args).length) (.retAddr 0)) (hd : 5 ≤ d)
    (t0 : decode (yB y) pcT = .ok (.new 165, 3)) (t3 : decode (yB y) (pcT + 3) = .ok (.dup, 1)) (t4 : (decode (yB y) (pcT + 4) = .ok (.ldc is, 2) ∧ nT = pcT + 6) ∨ (decode (yB y) (pcT + 4) = .ok (.ldc_w is, 3) ∧ nT = pcT + 7)) (t6 : decode (yB y) nT = .ok (.invokespecial 169, 3)) (t9 : decode (yB y) (nT + 3) = .ok (.athrow, 1)) (tx : (is = 167 ∧ text = xT1) ∨ (is = 310 ∧ text = xT2) ∨ (is = 328 ∧ text = xT3))
    (h : ∀ At : JJ, (∀ pc L S M, wp (Ev d) At (fun r' M'' => ok ∧ r' = r ∧ M'' = M') X0 C 1000 (jmT C pc) L S M → At pc L S M) → (∀ L, ¬ ok → At pcT L [] M) → wp (Ev d) At (fun r' M'' => ok ∧ r' = r ∧ M'' = M') X0 C 1000 C L0 [] M) (hgh : gh M' = gh M) : EvX (d + 1) y args M ok r M' := by
  intro l hl D ad cA sz
  refine vx_ofW (cc := yB y) (maxL := yM y) (ret := yR y) k3 rfl ?_
  intro p e s m args' below meth c s₁ B hml hnt hv
  obtain ⟨⟨rfl, hsz, hP, hK, hD, hSx, hN⟩, hG⟩ := hv
  subst hsz
  have hts := atoms_spec (ws := wsY y) B.pre
  have hown : s.vm.findClass (yN y).cls = some m.cls := findClass_of_methodNamed B.named
  have hret := B.returns
  have hlocks := B.notSynchronized
  have hB : Bd p (rmX (d + 1)) s m (args.map (pv ad)).toArray c D ad cA y 12 d (fun g => g = gh M) (fun _ => 0) (fun _ => 0) :=
    ⟨B.exec, B.bytes, hml, by rw [k2]; exact hown, fun w hw => hts w (wsY_gtb hw), hK, wsM_D hD, hSx, hN, ⟨Nat.le_refl _, Nat.le_refl _⟩, fun g _ => ⟨Nat.zero_le _, Nat.zero_le _⟩⟩
  have hR : RtW p l e (rmX (d + 1)) s m (args.map (pv ad)).toArray below meth c (vx_MQ below (PostX ok D ad cA s.heap.size r M M') (XCX ok D ad cA s.heap.size M) (args.map (pv ad)).toArray s 1 6 (AA ad s.heap.size)) D ad cA y (fun g => g = gh M) (fun _ => 0) (fun _ => 0) (fun r' M'' => ok ∧ r' = r ∧ M'' = M') := by
    intro r' M'' ⟨e0, e1, e2⟩ hg pc H locs ls hP1 hS1 hcase
    subst e1; subst e2
    apply vx_ret
    refine w_wide (Nat.zero_le 1) (Nat.zero_le 6) ?_
    have hq : ∀ t : State, t.heap = H → PostX ok D ad cA s.heap.size r' M M'' (args.map (pv ad)).toArray s (.returned (r'.map (pv ad))) t := fun t ht => ⟨⟨⟨rfl, by rw [ht]; exact hP1, hg⟩, hS1.F ht⟩, e0⟩
    rcases hcase with ⟨x, rfl, hd, hr⟩ | ⟨x, rfl, hd, hr⟩ | ⟨x, z, rfl, hd, hr⟩ | ⟨rfl, hd, hr⟩
    · rcases hr with hr | ⟨hr, hx⟩
      · exact W.zret B.exec B.bytes (hret.trans hr) rfl (fun t ht _ => hq t ht) hS1.2.2 hd
      · exact W.zret B.exec B.bytes (hret.trans hr) (by rcases hx with rfl | rfl <;> rfl) (fun t ht _ => hq t ht) hS1.2.2 hd
    · exact W.lret B.exec B.bytes (hret.trans hr) (fun t ht _ => hq t ht) hS1.2.2 hd
    · exact W.aret B.exec B.bytes (hret.trans hr) (Or.inl ⟨z, rfl⟩) (va_rf_or _) (fun t ht _ => hq t ht) hS1.2.2 hd
    · exact W.vret B.exec B.bytes (hret.trans hr) (fun t ht _ => hq t ht) hS1.2.2 hd
  have hSc : ScW false s ad X0 := fun q => by cases q
  have h11 : C11 false (Ev d) p l e (rmX (d + 1)) s m (args.map (pv ad)).toArray below meth c (vx_MQ below (PostX ok D ad cA s.heap.size r M M') (XCX ok D ad cA s.heap.size M) (args.map (pv ad)).toArray s 1 6 (AA ad s.heap.size)) D ad cA y (fun g => g = gh M) (fun _ => 0) (fun _ => 0) := fun q => by cases q
  have hE : ∀ z, z ∉ yLaw → ∀ as M v M', Ev d z as M v M' → Ev d z as M v M' := fun _ _ _ _ _ _ q => q
  have hstr : ∃ sa, vk_R "BagsRiver" is text sa s := by
    rcases tx with ⟨rfl, rfl⟩ | ⟨rfl, rfl⟩ | ⟨rfl, rfl⟩
    · exact hG.2.2.2.1
    · exact hG.2.2.2.2.1
    · exact hG.2.2.2.2.2
  obtain ⟨sa, hstr⟩ := hstr
  have hthr : ∀ L, ¬ ok → AtW p l e (rmX (d + 1)) s m (args.map (pv ad)).toArray below meth c (vx_MQ below (PostX ok D ad cA s.heap.size r M M') (XCX ok D ad cA s.heap.size M) (args.map (pv ad)).toArray s 1 6 (AA ad s.heap.size)) D ad cA y (fun g => g = gh M) (fun _ => 0) (fun _ => 0) pcT L [] M := by
    intro L hno hg H locs ls hlk hP1 hS1
    refine x_throw (cc := yB y) (sa := sa) (is := is) (text := text) (n := nT) (A := AA ad s.heap.size) B.exec B.bytes hl ?_ (fun w hw => vx_ot_at (State.WarmedH.refl s) rfl (List.all_eq_true.mp xW2 w hw) (hG.1 w hw)) hstr hG.2.1 hG.2.2.1 hS1 ?_ t0 t3 t4 t6 t9 (fun x hx => (hnt x hx).elim) (show 5 < d + 1 by omega) (show 0 + 82 ≤ 200 * (d + 1) by omega) (Nat.le_refl 1) (Nat.le_refl 6) hlocks ?_ hS1.2.2 (Nat.le_refl 1) (Nat.le_refl 6)
    · exact hB.2.2.2.1
    · rw [hml]
      exact hlk.1
    · intro t _ h1 h2
      refine ⟨(), hno, ⟨rfl, hP1.kept fun k q hk => h2 _ (vx_lt hP1 hk)⟩, Nat.le_trans hS1.1 h1, fun q hq hA => ?_⟩
      rw [h2 q (Nat.lt_of_lt_of_le hq hS1.1)]
      exact hS1.2.1 q hq hA
  have hw := h _ (step_ofT hB hk hE hR hSc h11 1000) hthr
  cases C with
  | nil => cases k6
  | cons o rc =>
    have e0 : o.1 = 0 := Option.some.inj k6
    have hA := sndT hB hk hE hR hSc h11 1000 _ hk L0 [] M o rc rfl hw rfl s.heap []
    rw [e0] at hA
    have hle2 : (lg_sl (args.map (pv ad))).length ≤ yM y := by rw [entL_len]; exact Nat.le_of_ble_eq_true k4
    have hl := lv_entry (args.map (pv ad)) (n := yM y) hle2
    rw [lg_entry_eq]
    refine hA _ ⟨hl.1, hl.2.1, ?_, fun i v hi hv => ?_⟩ hP va_S.rf
    · rw [hL, List.length_append, List.length_replicate]
      rw [entL_len] at hle2
      omega
    · rw [hL] at hi
      rw [List.getElem?_append] at hi
      split at hi
      · have := hl.2.2 _ (entL_mem (ad := ad) args 0 i v hi hv)
        simpa using this
      · rw [List.getElem?_replicate] at hi
        split at hi
        · cases hi; cases hv
        · cases hi
