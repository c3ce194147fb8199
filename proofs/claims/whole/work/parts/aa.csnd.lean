/-! ===== the constructors' machine is right: a method whole ===== -/
theorem Wfm_pv {σ σ' : Kst} {a k : Nat} {t : List Nat} {v : Value} (h : pvO σ a k t v = some σ') (ha : a ∈ σ.2.1) : σ'.2.1 = σ.2.1 ∧ (Wfm σ.2.1 (mC σ) → Wfm σ.2.1 (mC σ')) ∧ (∀ ad : Nat → Nat, pv ad v = fvC ad (mC σ') a k t) ∧ (∀ (ad : Nat → Nat) (j : Nat) (t' : List Nat), j ≠ k → fvC ad (mC σ') a j t' = fvC ad (mC σ) a j t') ∧ (∀ (ad : Nat → Nat) (cA : Nat → ClassId) (b : Nat), b ≠ a → entC ad cA (mC σ') b = entC ad cA (mC σ) b) ∧ ((t.headD 9 = 0 ∧ ∃ x, v = .int x) ∨ (2 ≤ t.headD 9 ∧ t.headD 9 ≤ 4 ∧ ∃ x : Nat, v = .ref x)) := by
  have refc : ∀ (x : Nat) (u : Nat) (t' : List Nat), (u = 2 ∨ u = 3 ∨ u = 4) → v = .ref x → t = u :: t' → oB (okD σ.2.1 x) (some (pR σ a k x)) = some σ' → σ'.2.1 = σ.2.1 ∧ (Wfm σ.2.1 (mC σ) → Wfm σ.2.1 (mC σ')) ∧ (∀ ad : Nat → Nat, pv ad v = fvC ad (mC σ') a k t) ∧ (∀ (ad : Nat → Nat) (j : Nat) (t' : List Nat), j ≠ k → fvC ad (mC σ') a j t' = fvC ad (mC σ) a j t') ∧ (∀ (ad : Nat → Nat) (cA : Nat → ClassId) (b : Nat), b ≠ a → entC ad cA (mC σ') b = entC ad cA (mC σ) b) ∧ ((t.headD 9 = 0 ∧ ∃ x, v = .int x) ∨ (2 ≤ t.headD 9 ∧ t.headD 9 ≤ 4 ∧ ∃ x : Nat, v = .ref x)) := by
    intro x u t' hu hv ht h9
    subst hv; subst ht
    obtain ⟨h1, h2⟩ := oB_e h9
    cases h2
    unfold okD at h1
    rw [Bool.or_eq_true] at h1
    have hx : x = 0 ∨ x ∈ σ.2.1 := h1.imp Nat.eq_of_beq_eq_true kdm_e
    rw [mC_R]
    refine ⟨rfl, fun hw => Wfm_R hw ha hx, fun ad => ?_, fun ad j t' hj => fvC_of rfl rfl (by rw [sR_at, upf_ne hj]), fun ad cA b hb => entC_of rfl rfl (up2_ne hb), Or.inr ⟨by show 2 ≤ u; omega, by show u ≤ 4; omega, x, rfl⟩⟩
    have e : (sR (mC σ) a k x).2.2 a k = x := by rw [sR_at, upf_eq]
    rcases hu with rfl | rfl | rfl
    · show va_rf (po ad x) = va_rf (po ad ((sR (mC σ) a k x).2.2 a k)); rw [e]
    · show va_rf (po ad x) = va_rf (po ad ((sR (mC σ) a k x).2.2 a k)); rw [e]
    · show va_rf (po ad x) = va_rf (po ad ((sR (mC σ) a k x).2.2 a k)); rw [e]
  unfold pvO at h
  split at h
  · cases h
    rw [mC_I]
    refine ⟨rfl, fun hw => Wfm_I hw ha, fun ad => ?_, fun ad j t' hj => fvC_of (by rw [sI_at]; exact upf_ne hj) rfl rfl, fun ad cA b hb => entC_of (up2_ne hb) rfl rfl, Or.inl ⟨rfl, _, rfl⟩⟩
    rename_i x
    show Value.int x = .int ((sI (mC σ) a k x).1 a k)
    rw [sI_at]
    show Value.int x = .int (upf ((mC σ).1 a) k x k)
    rw [upf_eq]
  · exact refc _ 2 _ (Or.inl rfl) rfl rfl h
  · exact refc _ 3 _ (Or.inr (Or.inl rfl)) rfl rfl h
  · exact refc _ 4 _ (Or.inr (Or.inr rfl)) rfl rfl h
  · cases h
section CM5
variable {p : Program} {l : Launch} {e : Env} {R : Room} {s : State} {m : MethodId} {args : Array Value} {below : List Frame} {meth : Method} {c : Code} {Q : State → Prop}
variable {D : va_G} {cA : Nat → ClassId} {cc : ByteArray} {nL cn d : Nat} {ini : Bool} {dm0 : List Nat} {ad0 : Nat → Nat}
theorem csnd (B : BdC p R s m args meth c D cA cc nL cn d ini) {call : Nat → List Value → Kst → Option Kst} {lc lsl : Nat} {C : List Op} (hlc : lc ≤ R.cells) (hls : lsl ≤ R.slots) (hC : chkC cc nL cn ini C = true) (hcall : ∀ k as σ σ', call k as σ = some σ' → EvC d k as σ σ') {res : CR} (hfin : (res.1 = true → decode cc res.2.1 = .ok (.return_, 1)) → AtC p l e R s m args below meth c Q D cA nL dm0 ad0 res.2.1 res.2.2.1 res.2.2.2.1 res.2.2.2.2.1 res.2.2.2.2.2.1 res.2.2.2.2.2.2) :
    ∀ (n : Nat) (is : List Op), chkC cc nL cn ini is = true → ∀ (L S : List Value) (σ : Kst) (nc ns : Nat), crun call lc lsl C n is L S σ nc ns = some res → ∀ o r, is = o :: r → AtC p l e R s m args below meth c Q D cA nL dm0 ad0 o.1 L S σ nc ns := by
  intro n
  induction n with
  | zero => intro is _ L S σ nc ns h; cases h
  | succ n ih =>
  rintro is hchk L S σ nc ns h ⟨pc, i, inf⟩ r rfl
  have ijn : ∀ t L S σ nc ns, crun call lc lsl C n (jm C t) L S σ nc ns = some res → AtC p l e R s m args below meth c Q D cA nL dm0 ad0 t L S σ nc ns := by
    intro t L S σ nc ns h
    obtain ⟨q1, q2⟩ := jm_chkC (t := t) hC
    cases hj : jm C t with
    | nil =>
      rw [hj] at h
      cases n with
      | zero => cases h
      | succ n => cases h
    | cons o r =>
      have e := q2 o r hj
      rw [← e]
      rw [hj] at q1 h
      exact ih _ q1 L S σ nc ns h o r rfl
  unfold chkC at hchk
  rw [Bool.and_eq_true] at hchk
  obtain ⟨hr, hchk⟩ := hchk
  have ihr : ∀ (pc' : Nat), hdP r = some pc' → ∀ L S σ nc ns, crun call lc lsl C n r L S σ nc ns = some res → AtC p l e R s m args below meth c Q D cA nL dm0 ad0 pc' L S σ nc ns := by
    intro pc' hp L S σ nc ns h
    cases r with
    | nil => cases hp
    | cons o r =>
      cases hp
      exact ih _ hr L S σ nc ns h o r rfl
  dsimp only at hchk ⊢
  by_cases hi : i = .nop
  · subst hi
    cases h
    exact hfin (fun q => by cases q)
  have hnop : isNop i = false := by
    cases i <;> first | rfl | exact absurd rfl hi
  rw [hnop] at hchk
  dsimp only at hchk
  rw [Bool.and_eq_true, Bool.and_eq_true] at hchk
  obtain ⟨hdec, hs, hnx⟩ := hchk
  have hd := decK_e hdec
  have ih2 : endC i = false → ∀ L S σ nc ns, crun call lc lsl C n r L S σ nc ns = some res → AtC p l e R s m args below meth c Q D cA nL dm0 ad0 (pc + lenC i) L S σ nc ns := by
    intro he
    rw [he] at hnx
    exact ihr _ (of_decide_eq_true hnx)
  have le4 : ∀ {x y : Nat}, Nat.ble x y = true → x ≤ y := fun h => Nat.le_of_ble_eq_true h
  cases i with
  | iconst k => exact k_iconst B hd (ih2 rfl _ _ _ _ _ h)
  | bipush k => exact k_bipush B (of_decide_eq_true hs) hd (ih2 rfl _ _ _ _ _ h)
  | sipush k => exact k_sipush B (of_decide_eq_true hs) hd (ih2 rfl _ _ _ _ _ h)
  | ldc2_w idx =>
    match inf, hs with
    | v :: q :: _, hs => exact k_ldc2 B (inP_gtb hs) hd (ih2 rfl _ _ _ _ _ h)
  | aload_n k =>
    obtain ⟨a, hx, h⟩ := xA_e h
    obtain ⟨h0, h⟩ := oB_e h
    exact k_aloadn B hx (nbz h0) hd (ih2 rfl _ _ _ _ _ h)
  | iload_n k =>
    obtain ⟨x, hx, h⟩ := xI_e h
    exact k_iloadn B hx hd (ih2 rfl _ _ _ _ _ h)
  | istore_n k =>
    obtain ⟨x, r', rfl, h⟩ := oI_e h
    exact k_istoren B (le4 hs) hd (ih2 rfl _ _ _ _ _ h)
  | istore k =>
    obtain ⟨x, r', rfl, h⟩ := oI_e h
    exact k_istore B (le4 hs) hd (ih2 rfl _ _ _ _ _ h)
  | astore_n k =>
    obtain ⟨x, r', rfl, h⟩ := oA_e h
    obtain ⟨h0, h⟩ := oB_e h
    exact k_astoren B (nbz h0) (le4 hs) hd (ih2 rfl _ _ _ _ _ h)
  | iinc k i =>
    obtain ⟨x, hx, h⟩ := xI_e h
    exact k_iinc B hx (le4 hs) hd (ih2 rfl _ _ _ _ _ h)
  | dup =>
    obtain ⟨x, r', rfl, h⟩ := oA_e h
    exact k_dup B rfl hd (ih2 rfl _ _ _ _ _ h)
  | goto off => exact k_goto B hd (of_decide_eq_true hs) (ijn _ _ _ _ _ _ h)
  | if_icmp cx off =>
    have hs : (isGe cx && tgtI pc off inf) = true := hs
    rw [Bool.and_eq_true] at hs
    cases cx with
    | ge =>
      obtain ⟨y, r1, rfl, h8⟩ := oI_e h
      obtain ⟨x, r2, rfl, h9⟩ := oI_e h8
      refine k_icmpge B hd (of_decide_eq_true hs.2) (fun q => ijn _ _ _ _ _ _ ?_) (fun q => ih2 rfl _ _ _ _ _ ?_)
      · rw [decide_eq_true q] at h9; exact h9
      · rw [decide_eq_false q] at h9; exact h9
    | _ => exact absurd hs.1 (by decide)
  | getfield idx =>
    obtain ⟨a, r', rfl, h⟩ := oA_e h
    match inf, hs, h with
    | ci :: k :: t, hs, h =>
      obtain ⟨w1, w2, w3, w4⟩ := fldC_e hs
      obtain ⟨h0, h⟩ := oB_e h
      rw [Bool.and_eq_true] at h0
      have hl := Nat.eq_of_beq_eq_true h0.1
      have ha := kdm_e h0.2
      have key : ∀ v : Value, (∀ ad : Nat → Nat, pv ad v = fvC ad (mC σ) a k ((FT.getD ci []).getD k [])) → crun call lc lsl C n r L (v :: r') σ nc ns = some res → AtC p l e R s m args below meth c Q D cA nL dm0 ad0 pc L (.ref a :: r') σ nc ns := fun v hv h => k_get B hd w1 w2 w3 w4 hl ha hv (ih2 rfl _ _ _ _ _ h)
      generalize (FT.getD ci []).getD k [] = tg at h key
      unfold gvO at h
      split at h
      · exact key _ (fun _ => rfl) h
      · exact key _ (fun _ => rfl) h
      · exact key _ (fun _ => rfl) h
      · exact key _ (fun _ => rfl) h
      · cases h
    | [], hs, h => cases h
    | [_], hs, h => cases h
  | putfield idx =>
    have hs : (fldC cn idx inf && finC ini cn inf) = true := hs
    rw [Bool.and_eq_true] at hs
    match S, inf, hs, h with
    | v :: .ref a :: r', ci :: k :: t, hs, h =>
      obtain ⟨w1, w2, w3, w4⟩ := fldC_e hs.1
      obtain ⟨h0, h⟩ := oB_e h
      rw [Bool.and_eq_true] at h0
      have hl := Nat.eq_of_beq_eq_true h0.1
      have ha := kdm_e h0.2
      obtain ⟨σ', hσ, h⟩ := oF_e h
      obtain ⟨p1, p2, p3, p4, p5, p6⟩ := Wfm_pv hσ ha
      have hf : (!((cq ci).2.1 k).2.2.2 || (ini && decide ((cq ci).1 = Rn cn))) = true := hs.2
      simp only [Bool.or_eq_true, Bool.and_eq_true, decide_eq_true_eq, Bool.not_eq_true'] at hf
      have ht := tyC_ok ci w3 k w2
      have nf : ∀ ad : Nat → Nat, narrow (tyq ci k) (pv ad v) = pv ad v ∧ fits (tyq ci k) (pv ad v) = true := fun ad => by
        rcases p6 with ⟨z0, x, rfl⟩ | ⟨z1, z2, x, rfl⟩
        · rw [ht.1 z0]; exact ⟨rfl, rfl⟩
        · refine isR_nar (ht.2 z1 z2) ?_
          by_cases q : x = 0
          · subst q; exact Or.inl rfl
          · exact Or.inr ⟨_, pv_ref q⟩
      refine k_put B hd w1 w2 w3 w4 ?_ hl ha p3 (fun ad j hj => p4 ad j _ hj) (fun ad b hb => p5 ad cA b hb) p1 p2 (fun ad => (nf ad).1) (fun ad => (nf ad).2) (ih2 rfl _ _ _ _ _ h)
      cases hfn : ((cq ci).2.1 k).2.2.2 with
      | false => exact Or.inl rfl
      | true =>
        rw [hfn] at hf
        rcases hf with z | z
        · cases z
        · exact Or.inr ⟨rfl, z⟩
  | new idx =>
    match σ, h with
    | (a :: sup, dm, μ), h =>
      match inf, hs, h with
      | ci :: q1 :: q2 :: q3 :: t, hs, h =>
        have hs : (inP q1 (.classLink (Rn cn) idx (cq ci).1) && (inP q2 (.instantiable (cq ci).1 (cq ci).2.2) && (inP q3 (.initialized (cq ci).1) && Nat.blt ci 12))) = true := hs
        simp only [Bool.and_eq_true] at hs
        obtain ⟨h0, h⟩ := oB_e h
        simp only [Bool.and_eq_true, Bool.not_eq_true'] at h0
        obtain ⟨b1, b2, b3, b4, b5, b6⟩ := h0
        exact k_new B hd (inP_gtb hs.1) (inP_gtb hs.2.1) (inP_gtb hs.2.2.1) (le4 hs.2.2.2) (Nat.eq_of_beq_eq_true b1) (kpB_n b2) b3 b4 (Nat.le_trans (le4 b5) hlc) (Nat.le_trans (le4 b6) hls) (ih2 rfl _ _ _ _ _ h)
  | newarray ty =>
    obtain ⟨x, r', rfl, h⟩ := oI_e h
    match σ, h with
    | (a :: sup, dm, μ), h =>
      match inf, hs with
      | q :: t, hs =>
        have hs : (inP q (.arrayClass (newarray.typeOf ty)) && Nat.blt (tA ty) 4) = true := hs
        rw [Bool.and_eq_true] at hs
        obtain ⟨h0, h⟩ := oB_e h
        simp only [Bool.and_eq_true, Bool.not_eq_true', decide_eq_false_iff_not] at h0
        obtain ⟨b1, b2, b3, b4, b5, b6, b7, b8, b9⟩ := h0
        exact k_newa B hd (inP_gtb hs.1) (le4 hs.2) (Nat.eq_of_beq_eq_true b1) b2 (Nat.eq_of_beq_eq_true b3) (le4 b4) (kpB_n b5) b6 b7 (Nat.le_trans (le4 b8) hlc) (Nat.le_trans (le4 b9) hls) (ih2 rfl _ _ _ _ _ h)
  | anewarray idx =>
    obtain ⟨x, r', rfl, h⟩ := oI_e h
    match σ, h with
    | (a :: sup, dm, μ), h =>
      match inf, hs, h with
      | t :: q :: u, hs, h =>
        have hs : (inP q (.classLink (Rn cn) idx (tC t)) && (Nat.ble 4 t && Nat.blt t 7)) = true := hs
        simp only [Bool.and_eq_true] at hs
        obtain ⟨h0, h⟩ := oB_e h
        simp only [Bool.and_eq_true, Bool.not_eq_true', decide_eq_false_iff_not] at h0
        obtain ⟨b1, b2, b3, b4, b5, b6, b7, b8, b9⟩ := h0
        exact k_newq (t := t) B hd (inP_gtb hs.1) ⟨le4 hs.2.1, le4 hs.2.2⟩ (Nat.eq_of_beq_eq_true b1) b2 (Nat.eq_of_beq_eq_true b3) (le4 b4) (kpB_n b5) b6 b7 (Nat.le_trans (le4 b8) hlc) (Nat.le_trans (le4 b9) hls) (ih2 rfl _ _ _ _ _ h)
  | multianewarray idx k =>
    obtain ⟨y, r1, rfl, h⟩ := oI_e h
    obtain ⟨x, r', rfl, h⟩ := oI_e h
    match σ, h with
    | (a1 :: a2 :: a3 :: a4 :: a5 :: a0 :: sup, dm, μ), h =>
      match inf, hs with
      | q1 :: q2 :: u, hs =>
        have hs : (inP q1 (.classLink (Rn cn) idx "[[I") && (inP q2 (.arrayClass .int) && Nat.beq k 2)) = true := hs
        simp only [Bool.and_eq_true] at hs
        obtain ⟨s1, s2, s3⟩ := hs
        have s3 := Nat.eq_of_beq_eq_true s3
        subst s3
        obtain ⟨h0, h8⟩ := oB_e h
        simp only [Bool.and_eq_true, decide_eq_true_eq, List.all_cons, List.all_nil, Bool.not_eq_true', and_true] at h0
        obtain ⟨e7, e5, b0, ⟨b1, b2, b3, b4, b5⟩, b6, ⟨f1, f2, f3, f4, f5, f0⟩, b7, b8, b9, b10⟩ := h0
        subst e7; subst e5
        have bq : ∀ {x y u v : Nat}, Nat.beq x y = true ∧ Nat.beq u v = true → x = y ∧ u = v := fun h => ⟨Nat.eq_of_beq_eq_true h.1, Nat.eq_of_beq_eq_true h.2⟩
        refine k_mna B hd (inP_gtb s1) (inP_gtb s2) (bq b0) (bq b1) (bq b2) (bq b3) (bq b4) (bq b5) b6 (fun a ha => ?_) b7 b8 (Nat.le_trans (le4 b9) hlc) (Nat.le_trans (le4 b10) hls) (ih2 rfl _ _ _ _ _ h8)
        simp only [List.mem_cons, List.not_mem_nil, or_false] at ha
        rcases ha with rfl | rfl | rfl | rfl | rfl | rfl
        · exact kpB_n f1
        · exact kpB_n f2
        · exact kpB_n f3
        · exact kpB_n f4
        · exact kpB_n f5
        · exact kpB_n f0
  | iaload =>
    obtain ⟨x, r1, rfl, h⟩ := oI_e h
    obtain ⟨a, r', rfl, h⟩ := oA_e h
    obtain ⟨h0, h⟩ := oB_e h
    simp only [Bool.and_eq_true] at h0
    exact k_iald B hd (kdm_e h0.1) (Nat.eq_of_beq_eq_true h0.2.1) (inRB_e h0.2.2) (ih2 rfl _ _ _ _ _ h)
  | iastore =>
    obtain ⟨v, r0, rfl, h⟩ := oI_e h
    obtain ⟨x, r1, rfl, h⟩ := oI_e h
    obtain ⟨a, r', rfl, h⟩ := oA_e h
    obtain ⟨h0, h⟩ := oB_e h
    simp only [Bool.and_eq_true] at h0
    exact k_iast B hd (kdm_e h0.1) (Nat.eq_of_beq_eq_true h0.2.1) (inRB_e h0.2.2) (ih2 rfl _ _ _ _ _ h)
  | lastore =>
    obtain ⟨v, r0, rfl, h⟩ := oL_e h
    obtain ⟨x, r1, rfl, h⟩ := oI_e h
    obtain ⟨a, r', rfl, h⟩ := oA_e h
    obtain ⟨h0, h⟩ := oB_e h
    simp only [Bool.and_eq_true] at h0
    exact k_last B hd (kdm_e h0.1) (Nat.eq_of_beq_eq_true h0.2.1) (inRB_e h0.2.2) (ih2 rfl _ _ _ _ _ h)
  | aastore =>
    obtain ⟨v, r0, rfl, h⟩ := oA_e h
    obtain ⟨x, r1, rfl, h⟩ := oI_e h
    obtain ⟨a, r', rfl, h⟩ := oA_e h
    obtain ⟨h0, h⟩ := oB_e h
    simp only [Bool.and_eq_true, Bool.or_eq_true] at h0
    obtain ⟨c1, c2, c3, c4⟩ := h0
    rcases c3 with ⟨z1, z2⟩ | ⟨z1, z2⟩
    · exact k_aast (t := 5) (ci := 6) B hd (kdm_e c1) (kdm_e c2) (Or.inl ⟨rfl, rfl⟩) (Nat.eq_of_beq_eq_true z1) (Nat.eq_of_beq_eq_true z2) (inRB_e c4) (ih2 rfl _ _ _ _ _ h)
    · exact k_aast (t := 6) (ci := 1) B hd (kdm_e c1) (kdm_e c2) (Or.inr ⟨rfl, rfl⟩) (Nat.eq_of_beq_eq_true z1) (Nat.eq_of_beq_eq_true z2) (inRB_e c4) (ih2 rfl _ _ _ _ _ h)
  | invokespecial idx =>
    have cal : ∀ (u k na : Nat) (t : List Nat), u ≠ 12 → (Cond.methodLink (Rn cn) idx (kN k) ∈ gtb ∨ (cn, idx, kN k) ∈ nestC) → k < 15 → kini k = true → parN (kN k) na = true → (oT na S [] fun as r' => oA r' fun a r' => oB (kdm σ.2.1 a && (Nat.ble r'.length 4 && (allV σ.2.1 L && (allV σ.2.1 r' && (Nat.ble (nc + kmc k) lc && Nat.ble (ns + kms k) lsl))))) (oF (call k (.ref a :: as) σ) fun σ' => crun call lc lsl C n r L r' σ' (nc + kmc k) (ns + kms k))) = some res → AtC p l e R s m args below meth c Q D cA nL dm0 ad0 pc L S σ nc ns := by
      intro u k na t _ hlk hk hi hna h
      obtain ⟨as, r0, g1, g2, h⟩ := oT_e h
      rw [List.append_nil] at h
      obtain ⟨a, r', rfl, h⟩ := oA_e h
      obtain ⟨h0, h⟩ := oB_e h
      simp only [Bool.and_eq_true] at h0
      obtain ⟨c1, c2, c3, c4, c5, c6⟩ := h0
      obtain ⟨σ', hσ, h⟩ := oF_e h
      rw [g2]
      exact k_callI B hd hk hi hlk hna g1 (le4 c2) (kdm_e c1) c3 c4 (Nat.le_trans (le4 c5) hlc) (Nat.le_trans (le4 c6) hls) (hcall _ _ _ _ hσ) (ih2 rfl _ _ _ _ _ h)
    match inf, hs, h with
    | 12 :: q :: t, hs, h =>
      obtain ⟨a, r', rfl, h⟩ := oA_e h
      obtain ⟨h0, h⟩ := oB_e h
      rw [Bool.and_eq_true] at h0
      exact k_objInit B (inP_gtb hs) kObjI kObjC (nbz h0.1) (le4 h0.2) hd (ih2 rfl _ _ _ _ _ h)
    | 13 :: k :: na :: q :: t, hs, h =>
      have hs : (inP q (.methodLink (Rn cn) idx (kN k)) && (Nat.blt k 15 && (kini k && parN (kN k) na))) = true := hs
      simp only [Bool.and_eq_true] at hs
      exact cal 13 k na t (by decide) (Or.inl (inP_gtb hs.1)) (le4 hs.2.1) hs.2.2.1 hs.2.2.2 h
    | 14 :: k :: na :: t, hs, h =>
      have hs : (decide ((cn, idx, kN k) ∈ nestC) && (Nat.blt k 15 && (kini k && parN (kN k) na))) = true := hs
      simp only [Bool.and_eq_true, decide_eq_true_eq] at hs
      exact cal 14 k na t (by decide) (Or.inr hs.1) (le4 hs.2.1) hs.2.2.1 hs.2.2.2 h
  | invokevirtual idx =>
    match inf, hs, h with
    | 15 :: k :: na :: q :: t, hs, h =>
      have hs : (inP q (.methodLink (Rn cn) idx (kN k)) && (Nat.blt k 15 && (!kini k && (parN (kN k) na && Nat.blt (kCn k) 14)))) = true := hs
      simp only [Bool.and_eq_true, Bool.not_eq_true'] at hs
      obtain ⟨as, r0, g1, g2, h⟩ := oT_e h
      rw [List.append_nil] at h
      obtain ⟨a, r', rfl, h⟩ := oA_e h
      obtain ⟨h0, h⟩ := oB_e h
      simp only [Bool.and_eq_true] at h0
      obtain ⟨c1, c2, c3, c4, c5, c6, c7⟩ := h0
      obtain ⟨σ', hσ, h⟩ := oF_e h
      rw [g2]
      exact k_callV B hd (le4 hs.2.1) hs.2.2.1 (inP_gtb hs.1) hs.2.2.2.1 g1 (le4 c2) (kdm_e c1) c7 c3 c4 (Nat.le_trans (le4 c5) hlc) (Nat.le_trans (le4 c6) hls) (hcall _ _ _ _ hσ) (ih2 rfl _ _ _ _ _ h)
  | invokestatic idx =>
    obtain ⟨y, r1, rfl, h7⟩ := oI_e h
    obtain ⟨x, r', rfl, h8⟩ := oI_e h7
    obtain ⟨h0, h9⟩ := oB_e h8
    simp only [Bool.and_eq_true] at h0
    match inf, hs with
    | 7 :: q :: t, hs => exact k_mmax B hd (inP_gtb hs) kMaxS kMaxN kMaxC (le4 h0.1) (Nat.le_trans (le4 h0.2.1) hlc) (Nat.le_trans (le4 h0.2.2) hls) (ih2 rfl _ _ _ _ _ h9)
  | return_ =>
    cases h
    exact hfin (fun _ => hd)
  | nop => exact absurd rfl hi
  | _ => cases hs
end CM5
