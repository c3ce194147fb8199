/-! ===== a sentence's text: the class's ONE, ALL, COND ===== -/
/-- the class stands at p, its sentence so far is st -/
def CZ (M : Mm) (b : Nat → Nat) (n L ps o : Nat) (g : Nat → Int) (nm : Nat → List Nat) (st : SS) (p : Nat) : Prop := CT M b n L p ∧ CN0 M ps g nm ∧ SQ M o st ∧ VE M o ∧ SP st
def CP (M : Mm) (b : Nat → Nat) (n L o : Nat) (R : PE (SS × Nat)) (r : Option Value) (N : Mm) : Prop := ∃ v, r = some (.int v) ∧ (Fr2 2 3 o (o + 5) M N ∧ VE N o ∧ PBo R v N fun x => CT N b n L x.2 ∧ SQ N o x.1)
section CSR
variable {b : Nat → Nat} {n L ps o : Nat} {g : Nat → Int} {nm : Nat → List Nat}
def C0 (b : Nat → Nat) (n L ps o : Nat) (g : Nat → Int) (nm : Nat → List Nat) (f : Nat) : Prop := ∀ (D dp p : Nat) (st : SS) (M : Mm), CZ M b n L ps o g nm st p → 1 ≤ dp → dp ≤ 9 → 4 * (n - p) + 2 ≤ f → 6 + 3 * (9 - dp) ≤ D → EvQ D 198 [.ref o, .ref 2, .ref ps, .int (I dp)] M (CP M b n L o (rdS b n L g nm f 0 dp st p))
def C1 (b : Nat → Nat) (n L ps o : Nat) (g : Nat → Int) (nm : Nat → List Nat) (f : Nat) : Prop := ∀ (D dp p : Nat) (st : SS) (M : Mm), CZ M b n L ps o g nm st p → 1 ≤ dp → dp ≤ 9 → 4 * (n - p) + 3 ≤ f → 7 + 3 * (9 - dp) ≤ D → EvQ D 197 [.ref o, .ref 2, .ref ps, .int (I dp)] M (CP M b n L o (rdS b n L g nm f 1 dp st p))
def C2 (b : Nat → Nat) (n L ps o : Nat) (g : Nat → Int) (nm : Nat → List Nat) (f : Nat) : Prop := ∀ (D dp p : Nat) (st : SS) (M : Mm), CZ M b n L ps o g nm st p → 1 ≤ dp → dp ≤ 9 → 4 * (n - p) + 4 ≤ f → 8 + 3 * (9 - dp) ≤ D → EvQ D 196 [.ref o, .ref 2, .ref ps, .int (I dp)] M (CP M b n L o (rdS b n L g nm f 2 dp st p))
theorem CZ_at {M N : Mm} {st st' : SS} {p q : Nat} (ho : Se o) (h : CZ M b n L ps o g nm st p) (hF : Fr2 2 3 o (o + 5) M N) (hv : VE N o) (t : CT N b n L q) (hq : SQ N o st') (hs : SP st') : CZ N b n L ps o g nm st' q := ⟨t, CN0_s h.2.1 ho hF, hq, hv, hs⟩
theorem c_all {F : Nat} (ho : Se o) (ih : ∀ f, f < F → C0 b n L ps o g nm f) : C1 b n L ps o g nm F := by
  intro D dp p st M hz hd1 hd9 hf hD
  have hst := hz.2.1.1
  have hs := hz.2.1.2.2.2.1
  have hp0 := hz.1.1.2.2.2.1
  cases F with
  | zero => exact absurd hf (by omega)
  | succ F =>
  obtain ⟨D', rfl⟩ : ∃ D', D = D' + 5 := ⟨D - 5, by omega⟩
  generalize hR : rdS b n L g nm (F + 1) 1 dp st p = R
  rw [sR_1] at hR
  apply e_Sentence_readAll ho hst
  intro At step
  refine q_int (ih F (by omega) (D' + 4) dp p st M hz hd1 hd9 (by omega) (by omega)) ?_
  rintro v N1 ⟨f1, v1, e1, e2⟩
  have bad : ∀ (N : Mm) (e : Int × Nat) (i : Nat), Fr2 2 3 o (o + 5) M N → VE N o → R = .error e → cFl N e → At 12 [.ref o, .ref 2, .ref ps, .int (I dp), .int (I 0), .int (I i)] [] N := by
    intro N e i hF hv hR hN
    apply s_Sentence_readAll_12 ho hst step
    exact ⟨fun _ => ⟨Or.inl rfl, _, rfl, hF, hv, PBe hR rfl hN⟩, fun y => absurd rfl y⟩
  rcases pe_cases (rdS b n L g nm F 0 dp st p) with ⟨e, he⟩ | ⟨x, hx⟩
  · obtain ⟨rfl, u⟩ := e1 e he
    rw [bnd_e he] at hR
    exact bad N1 e 0 f1 v1 hR.symm u
  obtain ⟨rfl, t1, q1⟩ := e2 x hx
  rw [bnd_o hx] at hR
  obtain ⟨s1, s2, s3, s4, s5, s6⟩ := (sR_ok hs F 0 dp st p x hp0 hz.2.2.2.2 hx).1 (Or.inl rfl)
  have b0 := hz.2.2.2.2.1
  have key : ∀ (m i q : Nat) (st' : SS) (N : Mm), m ≤ F → CZ N b n L ps o g nm st' q → Fr2 2 3 o (o + 5) M N → i < st'.2.2 → st'.2.1 + 1 ≤ 2 * st'.2.2 → 1 ≤ dpS st'.1 st'.2.1 → 4 * (n - q) + 2 ≤ m → rdS b n L g nm m 3 dp st' q = R → At 12 [.ref o, .ref 2, .ref ps, .int (I dp), .int (I 1), .int (I i)] [] N := by
    intro m
    induction m with
    | zero =>
      intro i q st' N hm hz' hF hi hc hdp hfq hR
      exact absurd hfq (by omega)
    | succ m ihm =>
      intro i q st' N hm hz' hF hi hc hdp hfq hR
      have a8 := hz'.1.2.2.2.2.1
      have hq0 := hz'.1.1.2.2.2.1
      have h20 := hz'.2.2.2.2.2.1
      have w4 : tkW b n L q ≤ 24 := by
        unfold tkW
        split
        · have := wix_b (tkL b n q)
          omega
        · omega
      rw [sR_3] at hR
      apply s_Sentence_readAll_12 ho hst step
      refine ⟨fun y => absurd y (by decide), fun _ => ⟨?_, fun c => ⟨fun y => ?_, fun _ => ?_⟩, fun c => ?_⟩⟩
      · rw [a8]
        unfold rE
        split <;> omega
      · rw [I_lt (by omega) (by omega) (by omega) (by omega)] at y
        exact absurd y (by omega)
      · have cw : tkW b n L q = 14 := by
          rw [a8] at c
          split at c <;> omega
        rw [if_pos cw] at hR
        have a1 := tk_four (b := b) (n := n) (L := L) hq0
        have p1 := a1.1.2.2.2.1 (by rw [tkW_2.mp (show tkW b n L q ≤ 23 by rw [cw]; decide)]; decide)
        have p2 := a1.1.2.1
        clear a1
        refine q_non (c_nextT (d := D' + 1) hz'.1) ?_
        rintro N8 ⟨f8, t8⟩
        have F8 := hF.trans (Fr.two f8)
        have z8 : CZ N8 b n L ps o g nm st' (tkN b n L q) := CZ_at ho hz' (Fr.two f8) (VE_2 hz'.2.2.2.1 ho f8) t8 (SQ_2 hz'.2.2.1 ho f8) hz'.2.2.2.2
        have ok8 := sR_ok (b := b) (n := n) (L := L) (nm := nm) hs m 0 dp st' (tkN b n L q) 
        generalize tkN b n L q = q' at *
        refine q_int (ih m (by omega) (D' + 4) dp q' st' N8 z8 hd1 hd9 (by omega) (by omega)) ?_
        rintro v N10 ⟨f10, v10, e3, e4⟩
        have F10 := F8.trans f10
        rcases pe_cases (rdS b n L g nm m 0 dp st' q') with ⟨e, he⟩ | ⟨y, hy⟩
        · obtain ⟨rfl, u⟩ := e3 e he
          rw [bnd_e he] at hR
          refine ⟨fun _ => ?_, fun y => absurd rfl y⟩
          rw [I_add]
          exact bad N10 e (i + 1) F10 v10 hR.symm u
        obtain ⟨rfl, t10, q10⟩ := e4 y hy
        rw [bnd_o hy] at hR
        obtain ⟨r1, r2, r3, r4, r5, r6⟩ := (ok8 y p2 hz'.2.2.2.2 hy).1 (Or.inl rfl)
        refine ⟨fun y => absurd y (by decide), fun _ => ?_⟩
        have r21 := r1.2.1
        refine q_int (c_addStep (d := D' + 3) (V := 614) (c := 21) (s := 0) (z := 0) ho q10 v10 (by omega) rfl) ?_
        rintro v N15 ⟨rfl, q15, v15, f15⟩
        refine ⟨fun y => absurd y (by decide), fun _ => ?_⟩
        obtain ⟨o1, o2⟩ := op_ok r1 (c := 21) (by omega) (Or.inr ⟨by decide, by omega⟩)
        rw [if_neg (by decide)] at o2
        have F15 := f10.trans (Fr.two' (a := 2) (b := 3) f15)
        rw [I_add]
        refine ihm (i + 1) y.2 (addc y.1 (21, 0, 0)) N15 (by omega) (CZ_at ho z8 F15 v15 (CT_s t10 ho f15) q15 o1) (F8.trans F15) ?_ ?_ ?_ (by omega) hR
        · show i + 1 < y.1.2.2
          omega
        · show y.1.2.1 + 1 + 1 ≤ 2 * y.1.2.2
          omega
        · rw [o2, r4]
          omega
      · have cw : ¬ tkW b n L q = 14 := fun cw => c (by rw [a8, cw]; rfl)
        rw [if_neg cw] at hR
        exact ⟨Or.inr rfl, _, rfl, hF, hz'.2.2.2.1, PBk hR.symm rfl ⟨hz'.1, hz'.2.2.1⟩⟩
  exact key F 0 x.2 x.1 N1 (Nat.le_refl _) (CZ_at ho hz f1 v1 t1 q1 s1) f1 (by omega) (by omega) (by omega) (by omega) hR
theorem c_cond {F : Nat} (ho : Se o) (ih : ∀ f, f < F → C1 b n L ps o g nm f) : C2 b n L ps o g nm F := by
  intro D dp p st M hz hd1 hd9 hf hD
  have hst := hz.2.1.1
  have hs := hz.2.1.2.2.2.1
  have hp0 := hz.1.1.2.2.2.1
  cases F with
  | zero => exact absurd hf (by omega)
  | succ F =>
  obtain ⟨D', rfl⟩ : ∃ D', D = D' + 5 := ⟨D - 5, by omega⟩
  generalize hR : rdS b n L g nm (F + 1) 2 dp st p = R
  rw [sR_2] at hR
  apply e_Sentence_readCond ho hst
  intro At step
  refine q_int (ih F (by omega) (D' + 4) dp p st M hz hd1 hd9 (by omega) (by omega)) ?_
  rintro v N1 ⟨f1, v1, e1, e2⟩
  have bad : ∀ (N : Mm) (e : Int × Nat) (i : Nat), Fr2 2 3 o (o + 5) M N → VE N o → R = .error e → cFl N e → At 12 [.ref o, .ref 2, .ref ps, .int (I dp), .int (I 0), .int (I i)] [] N := by
    intro N e i hF hv hR hN
    apply s_Sentence_readCond_12 ho hst step
    exact ⟨fun _ => ⟨Or.inl rfl, _, rfl, hF, hv, PBe hR rfl hN⟩, fun y => absurd rfl y⟩
  rcases pe_cases (rdS b n L g nm F 1 dp st p) with ⟨e, he⟩ | ⟨x, hx⟩
  · obtain ⟨rfl, u⟩ := e1 e he
    rw [bnd_e he] at hR
    exact bad N1 e 0 f1 v1 hR.symm u
  obtain ⟨rfl, t1, q1⟩ := e2 x hx
  rw [bnd_o hx] at hR
  obtain ⟨s1, s2, s3, s4, s5, s6⟩ := (sR_ok hs F 1 dp st p x hp0 hz.2.2.2.2 hx).1 (Or.inr (Or.inl rfl))
  have b0 := hz.2.2.2.2.1
  have key : ∀ (m i q : Nat) (st' : SS) (N : Mm), m ≤ F → CZ N b n L ps o g nm st' q → Fr2 2 3 o (o + 5) M N → i < st'.2.2 → st'.2.1 + 1 ≤ 2 * st'.2.2 → 1 ≤ dpS st'.1 st'.2.1 → 4 * (n - q) + 2 ≤ m → rdS b n L g nm m 4 dp st' q = R → At 12 [.ref o, .ref 2, .ref ps, .int (I dp), .int (I 1), .int (I i)] [] N := by
    intro m
    induction m with
    | zero =>
      intro i q st' N hm hz' hF hi hc hdp hfq hR
      exact absurd hfq (by omega)
    | succ m ihm =>
      intro i q st' N hm hz' hF hi hc hdp hfq hR
      have a8 := hz'.1.2.2.2.2.1
      have hq0 := hz'.1.1.2.2.2.1
      have h20 := hz'.2.2.2.2.2.1
      have w4 : tkW b n L q ≤ 24 := by
        unfold tkW
        split
        · have := wix_b (tkL b n q)
          omega
        · omega
      rw [sR_4] at hR
      apply s_Sentence_readCond_12 ho hst step
      refine ⟨fun y => absurd y (by decide), fun _ => ⟨?_, fun c => ⟨fun y => ?_, fun _ => ?_⟩, fun c => ?_⟩⟩
      · rw [a8]
        unfold rE
        split <;> omega
      · rw [I_lt (by omega) (by omega) (by omega) (by omega)] at y
        exact absurd y (by omega)
      · have cw : tkW b n L q = 13 := by
          rw [a8] at c
          split at c <;> omega
        rw [if_pos cw] at hR
        have a1 := tk_four (b := b) (n := n) (L := L) hq0
        have p1 := a1.1.2.2.2.1 (by rw [tkW_2.mp (show tkW b n L q ≤ 23 by rw [cw]; decide)]; decide)
        have p2 := a1.1.2.1
        clear a1
        refine q_non (c_nextT (d := D' + 1) hz'.1) ?_
        rintro N8 ⟨f8, t8⟩
        have F8 := hF.trans (Fr.two f8)
        have z8 : CZ N8 b n L ps o g nm st' (tkN b n L q) := CZ_at ho hz' (Fr.two f8) (VE_2 hz'.2.2.2.1 ho f8) t8 (SQ_2 hz'.2.2.1 ho f8) hz'.2.2.2.2
        have ok8 := sR_ok (b := b) (n := n) (L := L) (nm := nm) hs m 1 dp st' (tkN b n L q) 
        generalize tkN b n L q = q' at *
        refine q_int (ih m (by omega) (D' + 4) dp q' st' N8 z8 hd1 hd9 (by omega) (by omega)) ?_
        rintro v N10 ⟨f10, v10, e3, e4⟩
        have F10 := F8.trans f10
        rcases pe_cases (rdS b n L g nm m 1 dp st' q') with ⟨e, he⟩ | ⟨y, hy⟩
        · obtain ⟨rfl, u⟩ := e3 e he
          rw [bnd_e he] at hR
          refine ⟨fun _ => ?_, fun y => absurd rfl y⟩
          rw [I_add]
          exact bad N10 e (i + 1) F10 v10 hR.symm u
        obtain ⟨rfl, t10, q10⟩ := e4 y hy
        rw [bnd_o hy] at hR
        obtain ⟨r1, r2, r3, r4, r5, r6⟩ := (ok8 y p2 hz'.2.2.2.2 hy).1 (Or.inr (Or.inl rfl))
        refine ⟨fun y => absurd y (by decide), fun _ => ?_⟩
        have r21 := r1.2.1
        refine q_int (c_addStep (d := D' + 3) (V := 613) (c := 22) (s := 0) (z := 0) ho q10 v10 (by omega) rfl) ?_
        rintro v N15 ⟨rfl, q15, v15, f15⟩
        refine ⟨fun y => absurd y (by decide), fun _ => ?_⟩
        obtain ⟨o1, o2⟩ := op_ok r1 (c := 22) (by omega) (Or.inr ⟨by decide, by omega⟩)
        rw [if_neg (by decide)] at o2
        have F15 := f10.trans (Fr.two' (a := 2) (b := 3) f15)
        rw [I_add]
        refine ihm (i + 1) y.2 (addc y.1 (22, 0, 0)) N15 (by omega) (CZ_at ho z8 F15 v15 (CT_s t10 ho f15) q15 o1) (F8.trans F15) ?_ ?_ ?_ (by omega) hR
        · show i + 1 < y.1.2.2
          omega
        · show y.1.2.1 + 1 + 1 ≤ 2 * y.1.2.2
          omega
        · rw [o2, r4]
          omega
      · have cw : ¬ tkW b n L q = 13 := fun cw => c (by rw [a8, cw]; rfl)
        rw [if_neg cw] at hR
        exact ⟨Or.inr rfl, _, rfl, hF, hz'.2.2.2.1, PBk hR.symm rfl ⟨hz'.1, hz'.2.2.1⟩⟩
  exact key F 0 x.2 x.1 N1 (Nat.le_refl _) (CZ_at ho hz f1 v1 t1 q1 s1) f1 (by omega) (by omega) (by omega) (by omega) hR
theorem c_one {F : Nat} (ho : Se o) (ih0 : ∀ f, f < F → C0 b n L ps o g nm f) (ih2 : ∀ f, f < F → C2 b n L ps o g nm f) : C0 b n L ps o g nm F := by
  intro D dp p st M hz hd1 hd9 hf hD
  have hst := hz.2.1.1
  have hs := hz.2.1.2.2.2.1
  have hp0 := hz.1.1.2.2.2.1
  have hsp := hz.2.2.2.2
  cases F with
  | zero => exact absurd hf (by omega)
  | succ F =>
  obtain ⟨D', rfl⟩ : ∃ D', D = D' + 6 := ⟨D - 6, by omega⟩
  have a8 := hz.1.2.2.2.2.1
  have w4 : tkW b n L p ≤ 24 := by
    unfold tkW
    split
    · have := wix_b (tkL b n p)
      omega
    · omega
  have wb := c_beginsOne (d := D' + 4) (M := M) w4
  generalize hR : rdS b n L g nm (F + 1) 0 dp st p = R
  rw [sR_0] at hR
  have fl : ∀ (k : Int), 1 ≤ k ∧ k ≤ 4 → R = .error (k, tkS b n L p) → ∃ (v : Int32) (N : Mm), Ev (D' + 5) 266 [.ref 2, .int (I k)] M (some (.int v)) N ∧ ((v = I 0 ∨ v = I 1) ∧ CP M b n L o R (some (.int v)) N) := fun k hk hR =>
    c_failT hz.1 hk fun N hF hN => ⟨Or.inl rfl, _, rfl, Fr.two hF, VE_2 hz.2.2.2.1 ho hF, PBe hR rfl hN⟩
  apply e_Sentence_readOne ho hst
  intro At step
  -- behind the first tests
  have at33 : ¬ (¬ isOpn b n L p ∧ ¬ tkW b n L p = 15 ∧ lfC (tkW b n L p) < 0) → At 33 [.ref o, .ref 2, .ref ps, .int (I dp), .ref (M.2.2 2 8), .int (I (if isOpn b n L p then 1 else 0))] [] M := by
    intro c1
    rw [if_neg c1] at hR
    apply s_Sentence_readOne_33 ho hst step
    have h20 := hsp.2.1
    rw [hz.2.2.1.2.1, I_lt (by omega) (by omega) (by omega) (by omega), I_lt (by omega) (by omega) (by omega) (by omega)]
    refine ⟨fun z20 => ⟨fun z8 => ?_, fun z8 => ?_⟩, fun z20 => ?_⟩
    · exact fl 4 (by decide) (by rw [← hR, if_pos (Or.inr (by omega))])
    · rw [if_neg (by omega)] at hR
      obtain ⟨D2, rfl⟩ : ∃ D2, D' = D2 + 3 := ⟨D' - 3, by omega⟩
      apply s_Sentence_readOne_54 ho hst step
      rw [hz.2.2.1.2.1, I_add]
      have hlo := (Se_al ho).2
      have hp3 := St_lo hst
      have hpo := St_Se hst ho
      have FM : Fr2 2 3 o (o + 5) M (sI M o 5 (I ((st.2.2 : Int) + 1))) := Fr.two' (Fr.sI (by omega) (by omega))
      have tM : CT (sI M o 5 (I ((st.2.2 : Int) + 1))) b n L p := CT_fr hz.1 (mI_fn (by omega)) (mI_fn (by omega)) rfl rfl
      have qM : SQ (sI M o 5 (I ((st.2.2 : Int) + 1))) o (onee st) := by
        obtain ⟨x1, x2, x3⟩ := hz.2.2.1
        refine ⟨by rw [mI_n2 (by decide)]; exact x1, by rw [mI_eq]; rfl, fun i hi => ?_⟩
        rw [mI_n1 (by omega), mI_n1 (by omega)]
        exact x3 i hi
      have vM : VE (sI M o 5 (I ((st.2.2 : Int) + 1))) o := hz.2.2.2.1
      have sM : SP (onee st) := by
        obtain ⟨q1, q2, q3, q4⟩ := hsp
        refine ⟨?_, ?_, q3, ?_⟩
        · show st.2.1 ≤ 2 * (st.2.2 + 1)
          omega
        · show st.2.2 + 1 ≤ 20
          omega
        · show dpS st.1 st.2.1 ≤ st.2.2 + 1
          omega
      refine q_non (c_nextT (d := D2 + 5) tM) ?_
      rintro N25 ⟨f25, t25⟩
      have F25 := FM.trans (Fr.two f25)
      have z25 : CZ N25 b n L ps o g nm (onee st) (tkN b n L p) := CZ_at ho hz F25 (VE_2 vM ho f25) t25 (SQ_2 qM ho f25) sM
      have a1 := tk_four (b := b) (n := n) (L := L) hp0
      have adv : 2 ≤ tkK b n L p → 4 * (n - tkN b n L p) + 4 ≤ F := by
        intro h2
        have p1 := a1.1.2.2.2.1 h2
        have p2 := a1.1.2.1
        clear a1
        generalize tkN b n L p = q' at *
        omega
      have hcn : st.2.1 < 40 := by
        have := hsp.1
        omega
      have p2 := a1.1.2.1
      have okF := fun md => sR_ok (b := b) (n := n) (L := L) (nm := nm) hs F md (dp + 1) (onee st) (tkN b n L p)
      clear a1
      have dpI : I (dp : Int) + I 1 = I ((dp + 1 : Nat) : Int) := by rw [I_add]; exact congrArg I (by omega)
      rw [dpI]
      by_cases c3 : isOpn b n L p
      · rw [if_pos c3] at hR ⊢
        refine ⟨fun y => absurd y (by decide), fun _ => ?_⟩
        refine q_int (ih2 F (by omega) (D2 + 8) (dp + 1) (tkN b n L p) (onee st) N25 z25 (by omega) (by omega) (adv (by rw [c3.1]; decide)) (by omega)) ?_
        rintro v N63 ⟨f63, v63, e1, e2⟩
        have F63 := F25.trans f63
        rcases pe_cases (rdS b n L g nm F 2 (dp + 1) (onee st) (tkN b n L p)) with ⟨e, he⟩ | ⟨x, hx⟩
        · obtain ⟨rfl, u⟩ := e1 e he
          rw [bnd_e he] at hR
          exact ⟨fun _ => ⟨_, rfl, F63, v63, PBe hR.symm rfl u⟩, fun y => absurd rfl y⟩
        obtain ⟨rfl, t63, q63⟩ := e2 x hx
        rw [bnd_o hx] at hR
        refine ⟨fun y => absurd y (by decide), fun _ => ?_⟩
        refine q_int (c_takeSign (d := D2 + 4) t63 (c := 41) (by decide)) ?_
        rintro v N68 ⟨f68, e3, e4⟩
        rcases pe_cases (pSign b n L 41 x.2) with ⟨e, he⟩ | ⟨q, hq⟩
        · obtain ⟨rfl, u⟩ := e3 e he
          rw [bnd_e he] at hR
          exact ⟨fun _ => ⟨_, rfl, F63.trans (Fr.two f68), VE_2 v63 ho f68, PBe hR.symm rfl u⟩, fun y => absurd rfl y⟩
        obtain ⟨rfl, t68⟩ := e4 q hq
        rw [bnd_o hq] at hR
        exact ⟨fun y => absurd y (by decide), fun _ => ⟨_, rfl, F63.trans (Fr.two f68), VE_2 v63 ho f68, PBk hR.symm rfl ⟨t68, SQ_2 q63 ho f68⟩⟩⟩
      rw [if_neg c3] at hR ⊢
      refine ⟨fun _ => ?_, fun y => absurd rfl y⟩
      have kw : tkW b n L p ≤ 23 := by
        by_cases c : tkW b n L p ≤ 23
        · exact c
        · exfalso
          refine c1 ⟨c3, by omega, ?_⟩
          rw [show tkW b n L p = 24 by omega]
          decide
      have k2 : tkK b n L p = 2 := tkW_2.mp kw
      rw [a8]
      by_cases c4 : tkW b n L p = 15
      · rw [if_pos c4] at hR
        rw [c4, if_pos (by decide)]
        refine ⟨Or.inr (by decide), fun _ => ?_, fun y => absurd rfl y⟩
        refine q_int (ih0 F (by omega) (D2 + 8) (dp + 1) (tkN b n L p) (onee st) N25 z25 (by omega) (by omega) (by have := adv (by rw [k2]; decide); omega) (by omega)) ?_
        rintro v N29 ⟨f29, v29, e1, e2⟩
        have F29 := F25.trans f29
        rcases pe_cases (rdS b n L g nm F 0 (dp + 1) (onee st) (tkN b n L p)) with ⟨e, he⟩ | ⟨x, hx⟩
        · obtain ⟨rfl, u⟩ := e1 e he
          rw [bnd_e he] at hR
          exact ⟨fun _ => ⟨_, rfl, F29, v29, PBe hR.symm rfl u⟩, fun y => absurd rfl y⟩
        obtain ⟨rfl, t29, q29⟩ := e2 x hx
        rw [bnd_o hx] at hR
        obtain ⟨r1, r2, r3, r4, r5, r6⟩ := (okF 0 x p2 sM hx).1 (Or.inl rfl)
        have r21 := r1.2.1
        have e9 : (onee st).2.1 = st.2.1 := rfl
        have e8 : (onee st).2.2 = st.2.2 + 1 := rfl
        have hsp1 := hsp.1
        refine ⟨fun y => absurd y (by decide), fun _ => ?_⟩
        refine q_int (c_addStep (d := D2 + 7) (V := 615) (c := 20) (s := 0) (z := 0) ho q29 v29 (by clear r5; omega) rfl) ?_
        rintro v N34 ⟨rfl, q34, v34, f34⟩
        exact ⟨fun y => absurd y (by decide), fun _ => ⟨_, rfl, F29.trans (Fr.two' f34), v34, PBk hR.symm rfl ⟨CT_s t29 ho f34, q34⟩⟩⟩
      rw [if_neg c4] at hR
      have l0 : 0 ≤ lfC (tkW b n L p) := Int.not_lt.mp fun y => c1 ⟨c3, c4, y⟩
      have vb := vbA_lf (tkW b n L p)
      have hcn1 : (onee st).2.1 < 40 := hcn
      unfold lfR at hR
      have rb := fun (d : Nat) (hc : tkW b n L p = 19) => c_readBehind (d := d) ho t25 z25.2.1 z25.2.2.1 z25.2.2.2.1 hcn1
      have rc := fun (d V : Nat) (hV : V = vbA (lfC (tkW b n L p))) => c_readCmp (d := d) (V := V) (c := lfC (tkW b n L p)) ho t25 z25.2.2.1 z25.2.2.2.1 hcn1 hV
      have ra := fun (d V : Nat) (hV : V = vbA (lfC (tkW b n L p))) => c_addStep (d := d) (V := V) (c := lfC (tkW b n L p)) (s := 0) (z := 0) ho z25.2.2.1 z25.2.2.2.1 hcn1 hV
      have t25' := t25
      generalize tkN b n L p = q' at *
      generalize tkW b n L p = w at *
      by_cases c5 : w = 19
      · rw [if_pos c5] at hR
        rw [c5, if_pos (by decide)]
        refine ⟨Or.inr (by decide), fun y => absurd y (by decide), fun _ => ⟨fun _ => ?_, fun y => absurd rfl y⟩⟩
        refine q_int (rb (D2 + 4) c5) ?_
        rintro v N40 ⟨f40, v40, hB⟩
        rw [hR] at hB
        exact ⟨PBo_01 hB, v, rfl, F25.trans f40, v40, hB⟩
      rw [if_neg c5] at hR
      have hw : w < 23 := by
        unfold lfC at l0
        by_cases c : w < 23
        · exact c
        · exfalso
          rw [if_neg (by omega), if_neg (by omega), if_neg (by omega), if_neg (by omega), if_neg (by omega), if_neg (by omega), if_neg (by omega), if_neg (by omega)] at l0
          omega
      have vb := vb hw l0
      rw [if_pos hw]
      by_cases c6 : 5 ≤ lfC w
      · rw [if_pos c6] at hR
        have go : ∃ (v : Int32), ∃ (N : Mm), (Ev (D2 + 8) 201 [.ref o, .ref 2, .ref (600 + w)] N25 (some (.int v)) N ∧ ((v = I 0 ∨ v = I 1) ∧ CP M b n L o R (some (.int v)) N)) := by
          refine q_int (rc (D2 + 3) (600 + w) vb.symm) ?_
          rintro v N40 ⟨f40, v40, hB⟩
          rw [hR] at hB
          exact ⟨PBo_01 hB, v, rfl, F25.trans f40, v40, hB⟩
        have w3 : w = 20 ∨ w = 21 ∨ w = 22 := by
          unfold lfC at c6
          repeat' split at c6
          all_goals omega
        refine ⟨Or.inr (by omega), fun y => absurd y (by omega), fun _ => ⟨fun y => absurd y (by omega), fun _ => ⟨fun _ => go, fun y1 => ⟨fun _ => go, fun y2 => ⟨fun _ => go, fun y3 => (by exfalso; omega)⟩⟩⟩⟩⟩
      · rw [if_neg c6] at hR
        have w3 : ¬ w = 20 ∧ ¬ w = 21 ∧ ¬ w = 22 := by
          refine ⟨fun y => c6 ?_, fun y => c6 ?_, fun y => c6 ?_⟩ <;> (rw [y]; decide)
        refine ⟨Or.inr (by omega), fun y => absurd y (by omega), fun _ => ⟨fun y => absurd y (by omega), fun _ => ⟨fun y => absurd y (by omega), fun _ => ⟨fun y => absurd y (by omega), fun _ => ⟨fun y => absurd y (by omega), fun _ => ?_⟩⟩⟩⟩⟩
        refine q_int (ra (D2 + 7) (600 + w) vb.symm) ?_
        rintro v N59 ⟨rfl, q59, v59, f59⟩
        exact ⟨Or.inr rfl, _, rfl, F25.trans (Fr.two' f59), v59, PBk hR.symm rfl ⟨CT_s t25' ho f59, q59⟩⟩
    · exact fl 4 (by decide) (by rw [← hR, if_pos (Or.inl (by omega))])
  refine ⟨_, _, c_atSign hz.1 (by decide), fun z => ?_, fun z => ?_⟩
  · rw [bI0] at z
    rw [a8]
    refine ⟨_, _, wb, fun y => ?_, fun y => ?_⟩
    · rw [bI0] at y
      refine fl 1 (by decide) ?_
      rw [← hR, if_pos ⟨z, fun c => y (Or.inl c), Int.not_le.mp fun c => y (Or.inr c)⟩]
    · have y2 : tkW b n L p = 15 ∨ 0 ≤ lfC (tkW b n L p) := Classical.byContradiction fun c => y (by rw [bI0]; exact c)
      have := at33 fun c => by
        rcases y2 with y2 | y2
        · exact c.2.1 y2
        · exact absurd c.2.2 (Int.not_lt.mpr y2)
      rw [a8] at this
      exact this
  · have z2 : isOpn b n L p := Classical.byContradiction fun y => z (by rw [bI0]; exact y)
    exact at33 fun c => c.1 z2
theorem c_sent (ho : Se o) : ∀ F f, f < F → C0 b n L ps o g nm f ∧ C1 b n L ps o g nm f ∧ C2 b n L ps o g nm f
  | 0, f, h => absurd h (by omega)
  | F + 1, f, h => by
    have ih := c_sent ho F
    by_cases c : f < F
    · exact ih f c
    · have e : f = F := by omega
      subst e
      exact ⟨c_one ho (fun k hk => (ih k hk).1) (fun k hk => (ih k hk).2.2), c_all ho fun k hk => (ih k hk).1, c_cond ho fun k hk => (ih k hk).2.1⟩
end CSR
