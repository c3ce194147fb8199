/-! ===== a street's text: the class's reader, a line, all lines ===== -/
theorem PBo_01 {α : Type} {R : PE α} {v : Int32} {N : Mm} {ok : α → Prop} (h : PBo R v N ok) : v = I 0 ∨ v = I 1 := by
  rcases pe_cases R with ⟨e, he⟩ | ⟨x, hx⟩
  · exact Or.inl (h.1 e he).1
  · exact Or.inr (h.2 x hx).1
theorem sw_1 : ∀ w : Nat, w < 23 → I (swTab w) = I 1 → w = 0 := by decide +kernel
theorem sw_2 : ∀ w : Nat, w < 23 → I (swTab w) = I 2 → w = 1 := by decide +kernel
theorem sw_3 : ∀ w : Nat, w < 23 → I (swTab w) = I 3 → w = 3 := by decide +kernel
theorem sw_4 : ∀ w : Nat, w < 23 → I (swTab w) = I 4 → w = 4 := by decide +kernel
theorem sw_5 : ∀ w : Nat, w < 23 → I (swTab w) = I 5 → w = 5 := by decide +kernel
theorem sw_6 : ∀ w : Nat, w < 23 → I (swTab w) = I 6 → w = 6 := by decide +kernel
theorem sw_7 : ∀ w : Nat, w < 23 → I (swTab w) = I 7 → w = 7 := by decide +kernel
theorem sw_8 : ∀ w : Nat, w < 23 → I (swTab w) = I 8 → w = 8 := by decide +kernel
theorem sw_n : ∀ w : Nat, w < 23 → (¬ I (swTab w) = I 8 ∧ ¬ I (swTab w) = I 7 ∧ ¬ I (swTab w) = I 6 ∧ ¬ I (swTab w) = I 5 ∧ ¬ I (swTab w) = I 4 ∧ ¬ I (swTab w) = I 3 ∧ ¬ I (swTab w) = I 2 ∧ ¬ I (swTab w) = I 1 ∧ True) → ¬ w = 0 ∧ ¬ w = 1 ∧ ¬ w = 3 ∧ ¬ w = 4 ∧ ¬ w = 5 ∧ ¬ w = 6 ∧ ¬ w = 7 ∧ ¬ w = 8 := fun w _ ⟨h8, h7, h6, h5, h4, h3, h2, h1, _⟩ => ⟨fun e => h1 (by rw [e]; rfl), fun e => h2 (by rw [e]; rfl), fun e => h3 (by rw [e]; rfl), fun e => h4 (by rw [e]; rfl), fun e => h5 (by rw [e]; rfl), fun e => h6 (by rw [e]; rfl), fun e => h7 (by rw [e]; rfl), fun e => h8 (by rw [e]; rfl)⟩
section CRG
variable {M : Mm} {b : Nat → Nat} {n L p ps on : Nat} {g : Nat → Int} {nm : Nat → List Nat}
theorem CI_crest {k : Nat} {x y : Int} (hs : RGs g) (hp : St ps) (h : CI M ps g nm on) (e : g 3 = k) (hk : k < 6) : CI (sI (sI (sI M (ps + 12) k (I x)) (ps + 13) k (I y)) (ps + 11) 2 (I ((k : Int) + 1))) ps (upf (upf (upf g (61 + k) x) (67 + k) y) 3 ((k : Int) + 1)) nm on := by
  have hlo := St_lo hp
  have hs1 := hs.1
  obtain ⟨⟨s1, s2, s3, s4, s5, s6⟩, ⟨m1, m2, m3⟩, r1, r2, r3, r4⟩ := h
  refine ⟨⟨?_, fun w hw => ?_, fun w hw => ?_, fun w hw => ?_, fun w hw => ?_, fun w hw => ?_⟩, ⟨fun w hw => ?_, fun w hw => ?_, fun w hw => ?_⟩, r1, ?_, ?_, ?_⟩
  · simp (disch := omega) only [mI_eq, mI_n1, mI_n2, upf_eq, upf_ne]
    exact ⟨s1.1, s1.2.1, s1.2.2.1, trivial, s1.2.2.2.2⟩
  · simp (disch := omega) only [upf_eq, upf_ne] at hw
    simp (disch := omega) only [mI_eq, mI_n1, mI_n2, upf_eq, upf_ne]
    exact s2 w hw
  · simp (disch := omega) only [upf_eq, upf_ne] at hw
    simp (disch := omega) only [mI_eq, mI_n1, mI_n2, upf_eq, upf_ne]
    exact s3 w hw
  · simp (disch := omega) only [upf_eq, upf_ne] at hw
    simp (disch := omega) only [mI_eq, mI_n1, mI_n2, upf_eq, upf_ne]
    exact s4 w hw
  · rw [upf_eq] at hw
    by_cases c : w = k
    · subst c
      simp (disch := omega) only [mI_eq, mI_n1, mI_n2, upf_eq, upf_ne] <;> exact ⟨trivial, trivial⟩
    · simp (disch := omega) only [mI_eq, mI_n1, mI_n2, upf_eq, upf_ne]
      exact s5 w (by omega)
  · simp (disch := omega) only [upf_eq, upf_ne] at hw
    simp (disch := omega) only [mI_eq, mI_n1, mI_n2, upf_eq, upf_ne]
    exact s6 w hw
  · simp (disch := omega) only [upf_ne] at hw
    exact m1 w hw
  · simp (disch := omega) only [upf_ne] at hw
    exact m2 w hw
  · simp (disch := omega) only [upf_ne] at hw
    exact m3 w hw
  · simp (disch := omega) only [mI_n1]
    exact r2
  · simp (disch := omega) only [mI_n1]
    exact r3
  · simp (disch := omega) only [mI_n1]
    exact r4
theorem CI_gauge {k : Nat} {x y : Int} (hs : RGs g) (hp : St ps) (h : CI M ps g nm on) (e : g 4 = k) (hk : k < 8) : CI (sI (sI (sI M (ps + 15) k (I x)) (ps + 16) k (I y)) (ps + 14) 2 (I ((k : Int) + 1))) ps (upf (upf (upf g (73 + k) x) (81 + k) y) 4 ((k : Int) + 1)) nm on := by
  have hlo := St_lo hp
  have hs1 := hs.1
  obtain ⟨⟨s1, s2, s3, s4, s5, s6⟩, ⟨m1, m2, m3⟩, r1, r2, r3, r4⟩ := h
  refine ⟨⟨?_, fun w hw => ?_, fun w hw => ?_, fun w hw => ?_, fun w hw => ?_, fun w hw => ?_⟩, ⟨fun w hw => ?_, fun w hw => ?_, fun w hw => ?_⟩, r1, ?_, ?_, ?_⟩
  · simp (disch := omega) only [mI_eq, mI_n1, mI_n2, upf_eq, upf_ne]
    exact ⟨s1.1, s1.2.1, s1.2.2.1, s1.2.2.2.1, trivial, s1.2.2.2.2.2⟩
  · simp (disch := omega) only [upf_eq, upf_ne] at hw
    simp (disch := omega) only [mI_eq, mI_n1, mI_n2, upf_eq, upf_ne]
    exact s2 w hw
  · simp (disch := omega) only [upf_eq, upf_ne] at hw
    simp (disch := omega) only [mI_eq, mI_n1, mI_n2, upf_eq, upf_ne]
    exact s3 w hw
  · simp (disch := omega) only [upf_eq, upf_ne] at hw
    simp (disch := omega) only [mI_eq, mI_n1, mI_n2, upf_eq, upf_ne]
    exact s4 w hw
  · simp (disch := omega) only [upf_eq, upf_ne] at hw
    simp (disch := omega) only [mI_eq, mI_n1, mI_n2, upf_eq, upf_ne]
    exact s5 w hw
  · rw [upf_eq] at hw
    by_cases c : w = k
    · subst c
      simp (disch := omega) only [mI_eq, mI_n1, mI_n2, upf_eq, upf_ne] <;> exact ⟨trivial, trivial⟩
    · simp (disch := omega) only [mI_eq, mI_n1, mI_n2, upf_eq, upf_ne]
      exact s6 w (by omega)
  · simp (disch := omega) only [upf_ne] at hw
    exact m1 w hw
  · simp (disch := omega) only [upf_ne] at hw
    exact m2 w hw
  · simp (disch := omega) only [upf_ne] at hw
    exact m3 w hw
  · simp (disch := omega) only [mI_n1]
    exact r2
  · simp (disch := omega) only [mI_n1]
    exact r3
  · simp (disch := omega) only [mI_n1]
    exact r4
theorem c_readCrest {d : Nat} (h : CT M b n L p) (hI : CI M ps g nm on) (hp : St ps) (hs : RGs g) : EvQ (d + 5) 252 [.ref 4, .ref (ps + 11), .int (I 60), .int (I 1), .int (I 99)] M fun r N => ∃ v, r = some (.int v) ∧ (FS ps M N ∧ PBo (lnPair b n L 3 6 61 60 67 1 99 g nm on p) v N fun x => CT N b n L x.2 ∧ CI N ps x.1.1 x.1.2.1 x.1.2.2) := by
  have h0 := hs.1.2.2.2.1
  obtain ⟨-, -, -, x4, x5⟩ := St_al hp
  have hlo := St_lo hp
  have hb : ∀ k : Nat, (k : Int) < g 3 → 0 ≤ g (61 + k) ∧ g (61 + k) < 1000 := fun k hk => by have := hs.2.2.2.2.1 k (by omega); omega
  obtain ⟨k, hk⟩ := Nn h0.1
  refine (c_readPair (nm := nm) (on := on) (cnt := 3) (fst := 61) (snd := 67) x4 h h0 hI.1.1.2.2.2.1 (fun k hk => (hI.1.2.2.2.2.1 k hk).1) hb (by decide) (by decide) (by decide)).mono ?_
  rintro r N ⟨v, rfl, K, hF, hK, hB⟩
  refine ⟨v, rfl, ?_, hB.1, fun x hx => ?_⟩
  · rcases hK with rfl | ⟨x, y, rfl⟩
    · exact FS_f FS_refl hF
    · exact FS_i (FS_i (FS_i (FS_f FS_refl hF) (by omega)) (by omega)) (by omega)
  · obtain ⟨rfl, y1, y2, y3, y4, y5⟩ := hB.2 x hx
    refine ⟨rfl, y1, ?_⟩
    have hk6 : k < 6 := by
      rcases Nat.lt_or_ge k 6 with c | c
      · exact c
      · exfalso
        unfold lnPair at hx
        rw [if_pos (show g 3 = ((6 : Nat) : Int) by omega)] at hx
        cases hx
    rw [y4, y5, hk, Int.toNat_natCast]
    exact CI_crest hs hp (CI_fr hI hp hF) hk hk6
theorem c_readGauge {d : Nat} (h : CT M b n L p) (hI : CI M ps g nm on) (hp : St ps) (hs : RGs g) : EvQ (d + 5) 252 [.ref 4, .ref (ps + 14), .int (I 47), .int (I 0), .int (I 60)] M fun r N => ∃ v, r = some (.int v) ∧ (FS ps M N ∧ PBo (lnPair b n L 4 8 73 47 81 0 60 g nm on p) v N fun x => CT N b n L x.2 ∧ CI N ps x.1.1 x.1.2.1 x.1.2.2) := by
  have h0 := hs.1.2.2.2.2.1
  obtain ⟨-, -, -, x4, x5⟩ := St_al hp
  have hlo := St_lo hp
  have hb : ∀ k : Nat, (k : Int) < g 4 → 0 ≤ g (73 + k) ∧ g (73 + k) < 1000 := fun k hk => by have := hs.2.2.2.2.2.1 k (by omega); omega
  obtain ⟨k, hk⟩ := Nn h0.1
  refine (c_readPair (nm := nm) (on := on) (cnt := 4) (fst := 73) (snd := 81) x5 h h0 hI.1.1.2.2.2.2.1 (fun k hk => (hI.1.2.2.2.2.2 k hk).1) hb (by decide) (by decide) (by decide)).mono ?_
  rintro r N ⟨v, rfl, K, hF, hK, hB⟩
  refine ⟨v, rfl, ?_, hB.1, fun x hx => ?_⟩
  · rcases hK with rfl | ⟨x, y, rfl⟩
    · exact FS_f FS_refl hF
    · exact FS_i (FS_i (FS_i (FS_f FS_refl hF) (by omega)) (by omega)) (by omega)
  · obtain ⟨rfl, y1, y2, y3, y4, y5⟩ := hB.2 x hx
    refine ⟨rfl, y1, ?_⟩
    have hk6 : k < 8 := by
      rcases Nat.lt_or_ge k 8 with c | c
      · exact c
      · exfalso
        unfold lnPair at hx
        rw [if_pos (show g 4 = ((8 : Nat) : Int) by omega)] at hx
        cases hx
    rw [y4, y5, hk, Int.toNat_natCast]
    exact CI_gauge hs hp (CI_fr hI hp hF) hk hk6
theorem c_readLine {d : Nat} (h : CT M b n L p) (hI : CI M ps g nm on) (hp : St ps) (hs : RGs g) (hm : NMo g nm) : EvQ (d + 6) 246 [.ref 4] M fun r N => ∃ v, r = some (.int v) ∧ (FS ps M N ∧ PBo (lnS b n L g nm on p) v N fun x => CT N b n L x.2 ∧ CI N ps x.1.1 x.1.2.1 x.1.2.2) := by
  have a8 := h.2.2.2.2.1
  have go : ∀ {R : PE (ST × Nat)} {y : Nat} {as : List Value}, EvQ (d + 5) y as M (fun r N => ∃ v, r = some (.int v) ∧ (FS ps M N ∧ PBo R v N fun x => CT N b n L x.2 ∧ CI N ps x.1.1 x.1.2.1 x.1.2.2)) → lnS b n L g nm on p = R → ∃ (v : Int32) (N : Mm), Ev (d + 5) y as M (some (.int v)) N ∧ ((v = I 0 ∨ v = I 1) ∧ ∃ v', some (Value.int v) = some (.int v') ∧ (FS ps M N ∧ PBo (lnS b n L g nm on p) v' N fun x => CT N b n L x.2 ∧ CI N ps x.1.1 x.1.2.1 x.1.2.2)) := by
    intro R y as hE hR
    rw [hR]
    refine q_int hE ?_
    rintro v N ⟨hF, hB⟩
    exact ⟨PBo_01 hB, v, rfl, hF, hB⟩
  have bd : lnS b n L g nm on p = .error (1, tkS b n L p) → ∃ (v : Int32) (N : Mm), Ev (d + 5) 266 [.ref 2, .int (I 1)] M (some (.int v)) N ∧ ((v = I 0 ∨ v = I 1) ∧ ∃ v', some (Value.int v) = some (.int v') ∧ (FS ps M N ∧ PBo (lnS b n L g nm on p) v' N fun x => CT N b n L x.2 ∧ CI N ps x.1.1 x.1.2.1 x.1.2.2)) := by
    intro hR
    exact c_failT h (by decide) fun N hF hN => ⟨Or.inl rfl, _, rfl, FS_f FS_refl hF, PBe hR rfl hN⟩
  have eS : lnS b n L g nm on p = if tkW b n L p = 0 then lnWall b n L g nm on p else if tkW b n L p = 1 then lnHouse b n L g nm on p else if tkW b n L p = 3 then lnDrain b n L g nm on p
    else if tkW b n L p = 4 then lnPair b n L 3 6 61 60 67 1 99 g nm on p else if tkW b n L p = 5 then lnPair b n L 4 8 73 47 81 0 60 g nm on p
    else if tkW b n L p = 6 then lnOnce b n L 0 5 1 60 g nm on p else if tkW b n L p = 7 then lnOnce b n L 1 6 0 999 g nm on p else if tkW b n L p = 8 then lnOnce b n L 2 7 1 20 g nm on p
    else .error (1, tkS b n L p) := rfl
  apply e_StreetReader_readLine
  intro At _
  rw [a8, hI.2.2.1]
  clear a8
  generalize tkW b n L p = w at *
  by_cases hw : w < 23
  · rw [if_pos hw, show 600 + w - 600 = w by omega, ixI (by omega) (by omega), Int.toNat_natCast]
    refine ⟨fun z => absurd z (by omega), fun _ => ⟨⟨by omega, by omega⟩, inRI (by omega) (by omega) (by omega), fun z => ?_, fun z => ?_, fun z => ?_, fun z => ?_, fun z => ?_, fun z => ?_, fun z => ?_, fun z => ?_, fun z => ?_⟩⟩
    · have := sw_1 w hw z
      exact go (c_readWall h hI hp hs hm) (by rw [eS, if_pos this])
    · have := sw_2 w hw z
      exact go (c_readHouse h hI hp hs hm) (by rw [eS, if_neg (by omega), if_pos this])
    · have := sw_3 w hw z
      exact go (c_readDrain h hI hp hs hm) (by rw [eS, if_neg (by omega), if_neg (by omega), if_pos this])
    · have := sw_4 w hw z
      exact ⟨hp, go (c_readCrest h hI hp hs) (by rw [eS, if_neg (by omega), if_neg (by omega), if_neg (by omega), if_pos this])⟩
    · have := sw_5 w hw z
      exact ⟨hp, go (c_readGauge h hI hp hs) (by rw [eS, if_neg (by omega), if_neg (by omega), if_neg (by omega), if_neg (by omega), if_pos this])⟩
    · have := sw_6 w hw z
      exact go (c_readPeople h hI hp hs) (by rw [eS, if_neg (by omega), if_neg (by omega), if_neg (by omega), if_neg (by omega), if_neg (by omega), if_pos this])
    · have := sw_7 w hw z
      exact go (c_readSand h hI hp hs) (by rw [eS, if_neg (by omega), if_neg (by omega), if_neg (by omega), if_neg (by omega), if_neg (by omega), if_neg (by omega), if_pos this])
    · have := sw_8 w hw z
      exact go (c_readRate h hI hp hs) (by rw [eS, if_neg (by omega), if_neg (by omega), if_neg (by omega), if_neg (by omega), if_neg (by omega), if_neg (by omega), if_neg (by omega), if_pos this])
    · obtain ⟨w1, w2, w3, w4, w5, w6, w7, w8⟩ := sw_n w hw z
      exact bd (by rw [eS, if_neg w1, if_neg w2, if_neg w3, if_neg w4, if_neg w5, if_neg w6, if_neg w7, if_neg w8])
  · rw [if_neg hw]
    refine ⟨fun _ => bd ?_, fun z => absurd rfl z⟩
    rw [eS, if_neg (by omega), if_neg (by omega), if_neg (by omega), if_neg (by omega), if_neg (by omega), if_neg (by omega), if_neg (by omega), if_neg (by omega)]
theorem c_clearS {d : Nat} (hp : St ps) : Ev (d + 1) 230 [.ref ps] M none (sI (sI (sI (sI (sI (sI (sI (sI M ps 2 (I 0)) ps 7 (I 0)) ps 12 (I 0)) (ps + 11) 2 (I 0)) (ps + 14) 2 (I 0)) ps 15 (I 10)) ps 16 (I 900)) ps 17 (I 11)) := by
  apply Ev.ofQ
  apply e_Street_clear hp
  intro At _
  exact ⟨rfl, rfl⟩
def st00 : ST := (g00, fun _ => [], 0)
theorem c_readStreet {d : Nat} (h : CT M b n L 0) (hp : St ps) : EvQ (d + 7) 245 [.ref 4, .ref ps] M fun r N => ∃ v, r = some (.int v) ∧ (FS ps M N ∧ (∀ e, lnsS b n L (n + 1) 0 st00 0 = .error e → cFl N e) ∧ ∀ x, lnsS b n L (n + 1) 0 st00 0 = .ok x → v = I x.1 ∧ N.1 2 9 = I 0 ∧ CSr N ps x.2.1 ∧ CNm N ps x.2.1 x.2.2.1 ∧ RGs x.2.1 ∧ NMo x.2.1 x.2.2.1 ∧ x.1 ≤ 940) := by
  have hlo := St_lo hp
  have h940 := h.1.1.2.1
  generalize hR : lnsS b n L (n + 1) 0 st00 0 = R
  apply e_StreetReader_read hp
  intro At step
  refine ⟨_, c_clearS hp, ?_⟩
  have key : ∀ (f ln q : Nat) (st : ST) (N : Mm), n < q + f → q ≤ n → 2 * ln ≤ q → CT N b n L q → CI N ps st.1 st.2.1 st.2.2 → RGs st.1 → NMo st.1 st.2.1 → FS ps M N → lnsS b n L f ln st q = R → At 31 [.ref 4, .retAddr 0, .int (I ln), .int (I 1)] [] N := by
    intro f
    induction f with
    | zero =>
      intro ln q st N h1 h2
      exfalso
      omega
    | succ f ih =>
      intro ln q st N h1 h2 h3 hT hI hs hm hF hR
      have hTk := hT.2.2.2.1
      have k4 := (tk_four (b := b) (L := L) h2).1.2.2.1
      rw [lnsS_s] at hR
      have rl := c_readLine (d := d) hT hI hp hs hm
      apply s_StreetReader_read_31 step
      rw [hTk]
      clear hTk
      generalize tkK b n L q = kk at *
      rw [I_ne (a := (kk : Int)) (b := 0) (by omega) (by omega) (by omega) (by omega), I_lt (by omega) (by omega) (by omega) (by omega)]
      refine ⟨fun z => absurd z (by decide), fun _ => ⟨fun z => ?_, fun z => ⟨fun _ => ?_, fun y => absurd (by omega) y⟩⟩⟩
      · rw [if_pos (by omega)] at hR
        refine ⟨_, rfl, hF, fun e he => ?_, fun x hx => ?_⟩
        · rw [← hR] at he
          cases he
        · rw [← hR] at hx
          cases hx
          exact ⟨rfl, hT.1.2.2.1, hI.1, hI.2.1, hs, hm, by show ln ≤ 940; omega⟩
      · rw [if_neg (by omega)] at hR
        refine q_int rl ?_
        rintro v N6 ⟨f6, e1, e2⟩
        have F6 := FS_trans hF f6
        have bad : ∀ (N : Mm) (e : Int × Nat), FS ps M N → R = .error e → cFl N e → At 31 [.ref 4, .retAddr 0, .int (I ((ln : Int) + 1)), .int (I 0)] [] N := by
          intro N e hF hR hN
          apply s_StreetReader_read_31 step
          refine ⟨fun _ => ⟨_, rfl, hF, fun e' he => ?_, fun x hx => ?_⟩, fun z => absurd rfl z⟩
          · rw [hR] at he
            cases he
            exact hN
          · rw [hR] at hx
            cases hx
        rcases pe_cases (lnS b n L st.1 st.2.1 st.2.2 q) with ⟨e, he⟩ | ⟨x, hx⟩
        · obtain ⟨rfl, w⟩ := e1 e he
          rw [bnd_e he] at hR
          rw [I_add]
          exact ⟨fun _ => bad _ e F6 hR.symm w, fun z => absurd rfl z⟩
        · obtain ⟨rfl, t6, i6⟩ := e2 x hx
          rw [bnd_o hx] at hR
          refine ⟨fun z => absurd z (by decide), fun _ => ?_⟩
          refine q_int (c_takeSign t6 (by decide)) ?_
          rintro v N11 ⟨f11, e3, e4⟩
          have F11 := FS_f F6 f11
          rcases pe_cases (pSign b n L 59 x.2) with ⟨e, he⟩ | ⟨q2, hq⟩
          · obtain ⟨rfl, w⟩ := e3 e he
            rw [bnd_e he] at hR
            rw [I_add]
            exact ⟨fun _ => bad _ e F11 hR.symm w, fun z => absurd rfl z⟩
          · obtain ⟨rfl, t11⟩ := e4 q2 hq
            rw [bnd_o hq] at hR
            refine ⟨fun z => absurd z (by decide), fun _ => ?_⟩
            obtain ⟨b1, b2, b3, b4⟩ := lns_step h2 hs hm hx hq
            rw [I_add]
            exact ih (ln + 1) q2 x.1 N11 (by omega) b4 (by omega) t11 (CI_fr i6 hp f11) b1 b2 F11 hR
  refine key (n + 1) 0 0 st00 _ (by omega) (by omega) (by omega) (CT_fr h ?_ ?_ ?_ ?_) ?_ RGs_00 NMo_00 ?_ hR
  · simp (disch := omega) only [mI_fn]
    rfl
  · simp (disch := omega) only [mI_fn]
    rfl
  · rfl
  · show up2 M.2.2 4 1 ps 2 = _
    rw [up2_ne (by decide)]
  · refine ⟨⟨?_, fun w hw => absurd hw ?_, fun w hw => absurd hw ?_, fun w hw => absurd hw ?_, fun w hw => absurd hw ?_, fun w hw => absurd hw ?_⟩, ⟨fun w hw => absurd hw ?_, fun w hw => absurd hw ?_, fun w hw => absurd hw ?_⟩, mR_eq3, ?_, ?_, ?_⟩
    · simp (disch := omega) only [mI_eq, mI_n1, mI_n2]
      exact ⟨rfl, rfl, rfl, rfl, rfl, rfl, rfl, rfl⟩
    · show ¬ (w : Int) < 0
      omega
    · show ¬ (w : Int) < 0
      omega
    · show ¬ (w : Int) < 0
      omega
    · show ¬ (w : Int) < 0
      omega
    · show ¬ (w : Int) < 0
      omega
    · show ¬ (w : Int) < 0
      omega
    · show ¬ (w : Int) < 0
      omega
    · show ¬ (w : Int) < 0
      omega
    · simp (disch := omega) only [mI_eq, mI_n1, mI_n2]
      rfl
    · simp (disch := omega) only [mI_eq, mI_n1, mI_n2]
      rfl
    · simp (disch := omega) only [mI_eq, mI_n1, mI_n2]
      rfl
  · refine FS_i (FS_i (FS_i (FS_i (FS_i (FS_i (FS_i (FS_i (FS_i (FS_i (FS_i ?_ (by omega)) (by omega)) (by omega)) (by omega)) (by omega)) (by omega)) (by omega)) (by omega)) (by omega)) (by omega)) (by omega)
    intro a a1 a2 a3
    refine ⟨rfl, rfl, ?_⟩
    show up2 M.2.2 4 1 ps a = _
    rw [up2_ne (by omega)]
end CRG
