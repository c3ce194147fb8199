/-! ===== the law's own three: their contract ===== -/
def EvL (d : Nat) (z : Nat) (as : List Value) (M : Mm) (r : Option Value) (M' : Mm) : Prop := ∀ (l : Launch), l.stackTraces = false → ∀ (D : va_G) (ad : Nat → Nat) (cA : Nat → ClassId) (sz : Nat), vx_Met l (yN z) (Cond.codeWith (yN z) (yB z) (yM z) (yR z) (hhY z) :: gtb) (rmX d) (PreX D ad cA sz as M) (PostL D ad cA sz r M M') (fun _ _ _ => False) 1 6 (AA ad sz)
theorem EvL.intro {y d : Nat} {C : List Op} {args L0 as : List Value} {M M' N : Mm} {r v : Option Value} {ok : Prop} {pcC pcH idx z n k : Nat} {en : Jvm.ClassFile.ExceptionTableEntry} (hk : chkT false y 14 C = true) (k2 : Rn 14 = (yN y).cls) (k3 : plainName (yN y).cls = true) (k4 : Nat.ble (entL args).length (yM y) = true) (k6 : hdP C = some 0) (hL : L0 = entL args ++ List.replicate (yM y - (entL args).length) (.retAddr 0))
    (hen : tableOf (hhY y) = [en]) (hx : covers en pcC = true) (hx0 : en.catchType = 13) (hpH : en.handlerPc = pcH) (hH : decode (yB y) pcH = .ok (.astore k, 2)) (hkk : k < yM y) (hd : decode (yB y) pcC = .ok (.invokevirtual idx, 3)) (hz : z < 281) (hl : z ∉ yLaw) (hst : z ∉ yS) (hn : parN (yN z) n = true) (hlk2 : Cond.methodLink (Rn 14) idx (yN z) ∈ gtb) (hcl : (yN z).cls = (cq (11 - 1)).1) (hb : lay 1 = 11) (has : as.length = n) (hE : EvX d z (.ref 1 :: as) M ok v N)
    (h : ∀ At : JJ, (∀ pc L S M, wp (Ev d) At (fun r' M'' => r' = r ∧ M'' = M') X0 C 1000 (jmT C pc) L S M → At pc L S M) → (∀ L rest, rest.length ≤ 4 → (ok → At (pcC + 3) L (v.toList ++ rest) (gs N)) → (¬ ok → At (pcH + 2) [] [] (gs M)) → At pcC L (as.reverse ++ .ref 1 :: rest) M) → wp (Ev d) At (fun r' M'' => r' = r ∧ M'' = M') X0 C 1000 C L0 [] M) (hgh : gh M' = gh M + 1) : EvL (d + 1) y args M r M' := by
  intro l hst0 D ad cA sz
  refine vx_ofWH (cc := yB y) (maxL := yM y) (ret := yR y) (hh := hhY y) k3 rfl ?_
  intro p e s m args' below meth c s₁ B hml hv
  obtain ⟨⟨rfl, hsz, hP, hK, hD, hSx, hN⟩, hG⟩ := hv
  subst hsz
  have hts := atoms_spec (ws := Cond.codeWith (yN y) (yB y) (yM y) (yR y) (hhY y) :: gtb) B.pre
  have htab : c.exceptionTable.toList = [en] := (vx_table (x := yN y) B (hts _ List.mem_cons_self)).trans hen
  have hown : s.vm.findClass (yN y).cls = some m.cls := findClass_of_methodNamed B.named
  have hret := B.returns
  have hlocks := B.notSynchronized
  have hB : Bd p (rmX (d + 1)) s m (args.map (pv ad)).toArray c D ad cA y 14 d (fun g => g = gh M ∨ g = gh M + 1) (fun g => g - gh M) (fun g => 6 * (g - gh M)) :=
    ⟨B.exec, B.bytes, hml, by rw [k2]; exact hown, fun w hw => hts w (List.mem_cons_of_mem _ hw), hK, wsM_D hD, hSx, hN, ⟨Nat.le_refl _, Nat.le_refl _⟩, fun g hg => ⟨by show g - gh M ≤ 1; omega, by show 6 * (g - gh M) ≤ 6; omega⟩⟩
  have hR : RtW p l e (rmX (d + 1)) s m (args.map (pv ad)).toArray below meth c (vx_MQ below (PostL D ad cA s.heap.size r M M') (fun _ _ _ => False) (args.map (pv ad)).toArray s 1 6 (AA ad s.heap.size)) D ad cA y (fun g => g = gh M ∨ g = gh M + 1) (fun g => g - gh M) (fun g => 6 * (g - gh M)) (fun r' M'' => r' = r ∧ M'' = M') := by
    intro r' M'' ⟨e1, e2⟩ hg pc H locs ls hP1 hS1 hcase
    subst e1; subst e2
    apply vx_ret
    refine w_wide (k := 1) (n := 6) (by show gh M'' - gh M ≤ 1; omega) (by show 6 * (gh M'' - gh M) ≤ 6; omega) ?_
    have hq : ∀ t : State, t.heap = H → PostL D ad cA s.heap.size r' M M'' (args.map (pv ad)).toArray s (.returned (r'.map (pv ad))) t := fun t ht => ⟨⟨rfl, by rw [ht]; exact hP1, hgh⟩, hS1.F ht⟩
    rcases hcase with ⟨x, rfl, hd, hr⟩ | ⟨x, rfl, hd, hr⟩ | ⟨x, z, rfl, hd, hr⟩ | ⟨rfl, hd, hr⟩
    · rcases hr with hr | ⟨hr, hx⟩
      · exact W.zret B.exec B.bytes (hret.trans hr) rfl (fun t ht _ => hq t ht) hS1.2.2 hd
      · exact W.zret B.exec B.bytes (hret.trans hr) (by rcases hx with rfl | rfl <;> rfl) (fun t ht _ => hq t ht) hS1.2.2 hd
    · exact W.lret B.exec B.bytes (hret.trans hr) (fun t ht _ => hq t ht) hS1.2.2 hd
    · exact W.aret B.exec B.bytes (hret.trans hr) (Or.inl ⟨z, rfl⟩) (va_rf_or _) (fun t ht _ => hq t ht) hS1.2.2 hd
    · exact W.vret B.exec B.bytes (hret.trans hr) (fun t ht _ => hq t ht) hS1.2.2 hd
  have hSc : ScW false s ad X0 := fun q => by cases q
  have h11 : C11 false (Ev d) p l e (rmX (d + 1)) s m (args.map (pv ad)).toArray below meth c (vx_MQ below (PostL D ad cA s.heap.size r M M') (fun _ _ _ => False) (args.map (pv ad)).toArray s 1 6 (AA ad s.heap.size)) D ad cA y (fun g => g = gh M ∨ g = gh M + 1) (fun g => g - gh M) (fun g => 6 * (g - gh M)) := fun q => by cases q
  have hE' : ∀ z, z ∉ yLaw → ∀ as M v M', Ev d z as M v M' → Ev d z as M v M' := fun _ _ _ _ _ _ q => q
  have hw := h _ (step_ofT hB hk hE' hR hSc h11 1000) fun L rest hrest i1 i2 => law_call (x := en) (k := k) hB hst0 hG ⟨by show gh M - gh M + 1 ≤ 1; omega, by show 6 * (gh M - gh M) + 6 ≤ 6; omega⟩ (Or.inr rfl) ⟨by show gh M + 1 - gh M = gh M - gh M + 1; omega, by show 6 * (gh M + 1 - gh M) = 6 * (gh M - gh M) + 6; omega⟩ htab hx (by rw [hx0]; decide) (by rw [hx0]; exact hts _ (List.mem_cons_of_mem _ lawW2)) (vx_ot_at (State.WarmedH.refl s) rfl (List.all_eq_true.mp xW2 _ lawW3) (hG.1 _ lawW3)) (by rw [hpH]; exact hH) hkk hd hz hl hst hn hlk2 hcl (by decide) hb has hrest hE i1 (by rw [hpH]; exact i2)
  cases C with
  | nil => cases k6
  | cons o rc =>
    have e0 : o.1 = 0 := Option.some.inj k6
    have hA := sndT hB hk hE' hR hSc h11 1000 _ hk L0 [] M o rc rfl hw (Or.inl rfl) s.heap []
    rw [e0] at hA
    have hle2 : (lg_sl (args.map (pv ad))).length ≤ yM y := by rw [entL_len]; exact Nat.le_of_ble_eq_true k4
    have hl2 := lv_entry (args.map (pv ad)) (n := yM y) hle2
    rw [lg_entry_eq]
    refine w_wide (Nat.zero_le _) (Nat.zero_le _) (hA _ ⟨hl2.1, hl2.2.1, ?_, fun i v hi hv => ?_⟩ hP va_S.rf)
    · rw [hL, List.length_append, List.length_replicate]
      rw [entL_len] at hle2
      omega
    · rw [hL] at hi
      rw [List.getElem?_append] at hi
      split at hi
      · have := hl2.2.2 _ (entL_mem (ad := ad) args 0 i v hi hv)
        simpa using this
      · rw [List.getElem?_replicate] at hi
        split at hi
        · cases hi; cases hv
        · cases hi
