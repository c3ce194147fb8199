/-! ===== a street's text: the class's reader, more lines ===== -/
section CRE
variable {M : Mm} {b : Nat → Nat} {n L p ps on : Nat} {g : Nat → Int} {nm : Nat → List Nat}
theorem c_addHouse {d k : Nat} {x : Int64} {y z u : Int32} (hp : St ps) (e : M.1 ps 7 = I (k : Int)) (hk : k < 10) : Ev (d + 1) 235 [.ref ps, .long x, .int y, .int z, .int u] M none (sI (sI (sI (sI (sL M (ps + 3) k x) (ps + 4) k y) (ps + 5) k z) (ps + 6) k u) ps 7 (I ((k : Int) + 1))) := by
  apply Ev.ofQ
  apply e_Street_addHouse hp
  intro At _
  have e4 : (sI (sL M (ps + 3) k x) (ps + 4) k y).1 ps 7 = I (k : Int) := by rw [mI_n1 (by omega), sL_1, e]
  rw [e, ixI (by omega) (by omega), Int.toNat_natCast, e4, ixI (by omega) (by omega), Int.toNat_natCast, I_lt (by omega) (by omega) (by omega) (by omega)]
  refine ⟨fun _ => ⟨inRI (by omega) (by omega) (by omega), inRI (by omega) (by omega) (by omega), inRI (by omega) (by omega) (by omega), fun N2 hN => ?_⟩, fun q => absurd (by omega) q⟩
  have e5 : N2.1 ps 7 = I (k : Int) := by rw [hN, mI_n1 (by omega), e4]
  have e6 : (sI N2 (ps + 6) k u).1 ps 7 = I (k : Int) := by rw [mI_n1 (by omega), e5]
  rw [e5, ixI (by omega) (by omega), Int.toNat_natCast, e6, I_add, hN]
  exact ⟨inRI (by omega) (by omega) (by omega), rfl, rfl⟩
theorem c_addDrain {d k : Nat} {x : Int64} {y z u : Int32} (hp : St ps) (e : M.1 ps 12 = I (k : Int)) (hk : k < 6) : Ev (d + 1) 236 [.ref ps, .long x, .int y, .int z, .int u] M none (sI (sI (sI (sI (sL M (ps + 7) k x) (ps + 8) k y) (ps + 9) k z) (ps + 10) k u) ps 12 (I ((k : Int) + 1))) := by
  apply Ev.ofQ
  apply e_Street_addDrain hp
  intro At _
  have e4 : (sI (sL M (ps + 7) k x) (ps + 8) k y).1 ps 12 = I (k : Int) := by rw [mI_n1 (by omega), sL_1, e]
  rw [e, ixI (by omega) (by omega), Int.toNat_natCast, e4, ixI (by omega) (by omega), Int.toNat_natCast, I_lt (by omega) (by omega) (by omega) (by omega)]
  refine ⟨fun _ => ⟨inRI (by omega) (by omega) (by omega), inRI (by omega) (by omega) (by omega), inRI (by omega) (by omega) (by omega), fun N2 hN => ?_⟩, fun q => absurd (by omega) q⟩
  have e5 : N2.1 ps 12 = I (k : Int) := by rw [hN, mI_n1 (by omega), e4]
  have e6 : (sI N2 (ps + 10) k u).1 ps 12 = I (k : Int) := by rw [mI_n1 (by omega), e5]
  rw [e5, ixI (by omega) (by omega), Int.toNat_natCast, e6, I_add, hN]
  exact ⟨inRI (by omega) (by omega) (by omega), rfl, rfl⟩
theorem CI_house {x : Int64} {k : Nat} {w y z : Int} {l : List Nat} (hs : RGs g) (hp : St ps) (h : CI M ps g nm on) (e : g 1 = k) (hk : k < 10) (hx : x = J (nmC l)) : CI (sI (sI (sI (sI (sL M (ps + 3) k x) (ps + 4) k (I (w - 1))) (ps + 5) k (I y)) (ps + 6) k (I z)) ps 7 (I ((k : Int) + 1))) ps (upf (upf (upf (upf g (13 + k) w) (23 + k) y) (33 + k) z) 1 ((k : Int) + 1)) (upf nm (5 + k) l) on := by
  have hlo := St_lo hp
  have hs1 := hs.1
  obtain ⟨⟨s1, s2, s3, s4, s5, s6⟩, ⟨m1, m2, m3⟩, r1, r2, r3, r4⟩ := h
  refine ⟨⟨?_, fun w hw => ?_, fun w hw => ?_, fun w hw => ?_, fun w hw => ?_, fun w hw => ?_⟩, ⟨fun w hw => ?_, fun w hw => ?_, fun w hw => ?_⟩, r1, ?_, ?_, ?_⟩
  · simp (disch := omega) only [mI_eq, mI_n1, mI_n2, upf_eq, upf_ne, sL_1]
    exact ⟨s1.1, trivial, s1.2.2⟩
  · simp (disch := omega) only [upf_eq, upf_ne] at hw
    simp (disch := omega) only [mI_eq, mI_n1, mI_n2, upf_eq, upf_ne, sL_1]
    exact s2 w hw
  · rw [upf_eq] at hw
    by_cases c : w = k
    · subst c
      simp (disch := omega) only [mI_eq, mI_n1, mI_n2, upf_eq, upf_ne, sL_1] <;> exact ⟨trivial, trivial, trivial⟩
    · simp (disch := omega) only [mI_eq, mI_n1, mI_n2, upf_eq, upf_ne, sL_1]
      exact s3 w (by omega)
  · simp (disch := omega) only [upf_eq, upf_ne] at hw
    simp (disch := omega) only [mI_eq, mI_n1, mI_n2, upf_eq, upf_ne, sL_1]
    exact s4 w hw
  · simp (disch := omega) only [upf_eq, upf_ne] at hw
    simp (disch := omega) only [mI_eq, mI_n1, mI_n2, upf_eq, upf_ne, sL_1]
    exact s5 w hw
  · simp (disch := omega) only [upf_eq, upf_ne] at hw
    simp (disch := omega) only [mI_eq, mI_n1, mI_n2, upf_eq, upf_ne, sL_1]
    exact s6 w hw
  · simp (disch := omega) only [upf_ne] at hw
    show (sL M (ps + 3) k x).2.1 (ps + 1) w = _
    rw [sL_ne (by omega), upf_ne (by omega)]
    exact m1 w hw
  · rw [upf_eq] at hw
    show (sL M (ps + 3) k x).2.1 (ps + 3) w = _
    by_cases c : w = k
    · subst c
      rw [sL_eq, upf_eq]
      exact hx
    · rw [sL_n2 c, upf_ne (by omega)]
      exact m2 w (by omega)
  · simp (disch := omega) only [upf_ne] at hw
    show (sL M (ps + 3) k x).2.1 (ps + 7) w = _
    rw [sL_ne (by omega), upf_ne (by omega)]
    exact m3 w hw
  · simp (disch := omega) only [mI_n1, sL_1]
    exact r2
  · simp (disch := omega) only [mI_n1, sL_1]
    exact r3
  · simp (disch := omega) only [mI_n1, sL_1]
    exact r4
theorem CI_drain {x : Int64} {k : Nat} {w y z : Int} {l : List Nat} (hs : RGs g) (hp : St ps) (h : CI M ps g nm on) (e : g 2 = k) (hk : k < 6) (hx : x = J (nmC l)) : CI (sI (sI (sI (sI (sL M (ps + 7) k x) (ps + 8) k (I w)) (ps + 9) k (I y)) (ps + 10) k (I z)) ps 12 (I ((k : Int) + 1))) ps (upf (upf (upf (upf g (43 + k) w) (49 + k) y) (55 + k) z) 2 ((k : Int) + 1)) (upf nm (15 + k) l) on := by
  have hlo := St_lo hp
  have hs1 := hs.1
  obtain ⟨⟨s1, s2, s3, s4, s5, s6⟩, ⟨m1, m2, m3⟩, r1, r2, r3, r4⟩ := h
  refine ⟨⟨?_, fun w hw => ?_, fun w hw => ?_, fun w hw => ?_, fun w hw => ?_, fun w hw => ?_⟩, ⟨fun w hw => ?_, fun w hw => ?_, fun w hw => ?_⟩, r1, ?_, ?_, ?_⟩
  · simp (disch := omega) only [mI_eq, mI_n1, mI_n2, upf_eq, upf_ne, sL_1]
    exact ⟨s1.1, s1.2.1, trivial, s1.2.2.2⟩
  · simp (disch := omega) only [upf_eq, upf_ne] at hw
    simp (disch := omega) only [mI_eq, mI_n1, mI_n2, upf_eq, upf_ne, sL_1]
    exact s2 w hw
  · simp (disch := omega) only [upf_eq, upf_ne] at hw
    simp (disch := omega) only [mI_eq, mI_n1, mI_n2, upf_eq, upf_ne, sL_1]
    exact s3 w hw
  · rw [upf_eq] at hw
    by_cases c : w = k
    · subst c
      simp (disch := omega) only [mI_eq, mI_n1, mI_n2, upf_eq, upf_ne, sL_1] <;> exact ⟨trivial, trivial, trivial⟩
    · simp (disch := omega) only [mI_eq, mI_n1, mI_n2, upf_eq, upf_ne, sL_1]
      exact s4 w (by omega)
  · simp (disch := omega) only [upf_eq, upf_ne] at hw
    simp (disch := omega) only [mI_eq, mI_n1, mI_n2, upf_eq, upf_ne, sL_1]
    exact s5 w hw
  · simp (disch := omega) only [upf_eq, upf_ne] at hw
    simp (disch := omega) only [mI_eq, mI_n1, mI_n2, upf_eq, upf_ne, sL_1]
    exact s6 w hw
  · simp (disch := omega) only [upf_ne] at hw
    show (sL M (ps + 7) k x).2.1 (ps + 1) w = _
    rw [sL_ne (by omega), upf_ne (by omega)]
    exact m1 w hw
  · simp (disch := omega) only [upf_ne] at hw
    show (sL M (ps + 7) k x).2.1 (ps + 3) w = _
    rw [sL_ne (by omega), upf_ne (by omega)]
    exact m2 w hw
  · rw [upf_eq] at hw
    show (sL M (ps + 7) k x).2.1 (ps + 7) w = _
    by_cases c : w = k
    · subst c
      rw [sL_eq, upf_eq]
      exact hx
    · rw [sL_n2 c, upf_ne (by omega)]
      exact m3 w (by omega)
  · simp (disch := omega) only [mI_n1, sL_1]
    exact r2
  · simp (disch := omega) only [mI_n1, sL_1]
    exact r3
  · simp (disch := omega) only [mI_n1, sL_1]
    exact r4
theorem c_seeWO {d : Nat} (h : CT M b n L p) (hI : CI M ps g nm on) (hp : St ps) (hs : RGs g) (hm : NMo g nm) : EvQ (d + 3) 249 [.ref 4] M fun r N => ∃ v, r = some (.int v) ∧ (Fr 2 3 M N ∧ ((∀ e, pWO b n L g nm p = .error e → v = I (-2) ∧ cFl N e) ∧ ∀ x, pWO b n L g nm p = .ok x → v = I (x - 1) ∧ N = M ∧ 0 ≤ x ∧ x ≤ g 0)) := by
  have h0 := hs.1.1
  have w4 : tkW b n L p ≤ 24 := by
    unfold tkW
    split
    · have := wix_b (tkL b n p)
      omega
    · omega
  have a8 := h.2.2.2.2.1
  obtain ⟨x1, -⟩ := St_al hp
  apply e_StreetReader_seeWallOrOutside
  intro At _
  rw [a8]
  refine ⟨?_, fun q => ?_, fun q => ?_⟩
  · unfold rE
    split <;> omega
  · have q2 : tkW b n L p = 2 := by
      revert q
      split <;> omega
    refine ⟨_, rfl, Fr.refl, fun e z => ?_, fun x z => ?_⟩
    · unfold pWO at z
      rw [if_pos q2] at z
      cases z
    · unfold pWO at z
      rw [if_pos q2] at z
      cases z
      exact ⟨rfl, rfl, by omega, by omega⟩
  · have q2 : ¬ tkW b n L p = 2 := by
      intro z
      rw [if_pos (by omega), z] at q
      exact q rfl
    obtain ⟨k, hk⟩ := Nn h0.1
    rw [hI.2.2.1, hI.1.1.1, hk]
    refine ⟨hp, ?_⟩
    refine q_int (c_seeNamed (nm := nm) (f := 0) h x1.1 (by omega) (by omega) (fun k hk => ⟨by rw [Nat.zero_add]; exact hI.2.1.1 k (by omega), by rw [Nat.zero_add]; exact hm.1 k (by omega)⟩)) ?_
    rintro v N ⟨hF, e1, e2⟩
    have eq : pWO b n L g nm p = bnd (pNamed b n L nm 0 k p) fun w => .ok (w + 1) := by
      unfold pWO
      rw [if_neg q2, hk, Int.toNat_natCast]
    rw [eq]
    rcases pe_cases (pNamed b n L nm 0 k p) with ⟨e, he⟩ | ⟨x, hx⟩
    · obtain ⟨rfl, w⟩ := e1 e he
      rw [bnd_e he]
      refine ⟨fun _ => ⟨_, rfl, hF, fun e' z => ?_, fun x z => ?_⟩, fun z => absurd rfl z⟩
      · cases z
        exact ⟨rfl, w⟩
      · cases z
    · obtain ⟨rfl, rfl, y1, y2⟩ := e2 x hx
      rw [bnd_o hx, I_ne (by omega) (by omega) (by omega) (by omega)]
      refine ⟨fun z => absurd z (by omega), fun _ => ⟨_, rfl, Fr.refl, fun e' z => ?_, fun x z => ?_⟩⟩
      · cases z
      · cases z
        exact ⟨by rw [Int.add_sub_cancel], rfl, by omega, by omega⟩
theorem c_readHouse {d : Nat} (h : CT M b n L p) (hI : CI M ps g nm on) (hp : St ps) (hs : RGs g) (hm : NMo g nm) : EvQ (d + 5) 248 [.ref 4] M fun r N => ∃ v, r = some (.int v) ∧ (FS ps M N ∧ PBo (lnHouse b n L g nm on p) v N fun x => CT N b n L x.2 ∧ CI N ps x.1.1 x.1.2.1 x.1.2.2) := by
  have h00 := hs.1.1
  have h0 := hs.1.2.1
  have hlo := St_lo hp
  obtain ⟨x1, -⟩ := St_al hp
  apply e_StreetReader_readHouse
  intro At _
  rw [hI.2.2.1, hI.1.1.2.1, I_lt (by omega) (by omega) (by omega) (by omega)]
  refine ⟨hp, fun q => ?_, fun q => ?_⟩
  · have hne : ¬ g 1 = 10 := by omega
    refine q_non (c_nextT h) ?_
    rintro N2 ⟨f1, t1⟩
    have I2 := CI_fr hI hp f1
    refine q_int (c_takeNewName t1 I2 hp hs hm) ?_
    rintro v N4 ⟨f2, e1, e2⟩
    rcases pe_cases (pFresh b n L g nm (tkN b n L p)) with ⟨e, he⟩ | ⟨x, hx⟩
    · obtain ⟨rfl, w⟩ := e1 e he
      refine ⟨fun _ => ⟨_, rfl, FS_f (FS_f FS_refl f1) f2, PBe (e := e) ?_ rfl w⟩, fun z => absurd rfl z⟩
      unfold lnHouse
      rw [if_neg hne, bnd_e he]
    obtain ⟨rfl, t2⟩ := e2 x hx
    have I4 := CI_fr I2 hp f2
    refine ⟨fun z => absurd z (by decide), fun _ => ?_⟩
    refine q_int (c_seeWO t2 I4 hp hs hm) ?_
    rintro v N9 ⟨f3, e3, e4⟩
    rcases pe_cases (pWO b n L g nm x.2) with ⟨e, he⟩ | ⟨w, hw⟩
    · obtain ⟨rfl, w⟩ := e3 e he
      refine ⟨fun _ => ⟨_, rfl, FS_f (FS_f (FS_f FS_refl f1) f2) f3, PBe (e := e) ?_ rfl w⟩, fun z => absurd rfl z⟩
      unfold lnHouse
      rw [if_neg hne, bnd_o hx, bnd_e he]
    obtain ⟨rfl, rfl, w1, w2⟩ := e4 w hw
    rw [I_ne (by omega) (by omega) (by omega) (by omega)]
    refine ⟨fun z => absurd z (by omega), fun _ => ?_⟩
    refine q_non (c_nextT t2) ?_
    rintro N14 ⟨f4, t4⟩
    refine q_int (c_takeNumber t4 (by decide) (by decide)) ?_
    rintro v N16 ⟨f5, e5, e6⟩
    have F16 : FS ps M N16 := FS_f (FS_f (FS_f (FS_f FS_refl f1) f2) f4) f5
    rcases pe_cases (pNum b n L 1 99 (tkN b n L x.2)) with ⟨e, he⟩ | ⟨y, hy⟩
    · obtain ⟨rfl, w⟩ := e5 e he
      refine ⟨fun _ => ⟨_, rfl, F16, PBe (e := e) ?_ rfl w⟩, fun z => absurd rfl z⟩
      unfold lnHouse
      rw [if_neg hne, bnd_o hx, bnd_o hw, bnd_e he]
    obtain ⟨rfl, t5, y1, y2⟩ := e6 y hy
    rw [I_ne (by omega) (by omega) (by omega) (by omega)]
    refine ⟨fun z => absurd z (by omega), fun _ => ?_⟩
    refine q_int (c_takeNumber t5 (by decide) (by decide)) ?_
    rintro v N21 ⟨f6, e7, e8⟩
    have F21 := FS_f F16 f6
    have I21 := CI_fr (CI_fr (CI_fr I4 hp f4) hp f5) hp f6
    obtain ⟨a1, a2, a3⟩ := pFresh_ok hx
    obtain ⟨k, hk⟩ := Nn h0.1
    have l7 := t1.2.2.2.2.2.1 a1
    rw [I21.2.2.1, l7, ← a2]
    have I21w := I21.1.1.2.1
    rw [hk] at I21w
    refine ⟨hp, _, c_addHouse hp I21w (by omega), ?_⟩
    have F25 : ∀ (x : Int64) (y z u v : Int32), FS ps M (sI (sI (sI (sI (sL N21 (ps + 3) k x) (ps + 4) k y) (ps + 5) k z) (ps + 6) k u) ps 7 v) := fun x y z u v => FS_i (FS_i (FS_i (FS_i (FS_l F21 (by omega)) (by omega)) (by omega)) (by omega)) (by omega)
    have e25 : ∀ (x : Int64) (y z u v : Int32), (sI (sI (sI (sI (sL N21 (ps + 3) k x) (ps + 4) k y) (ps + 5) k z) (ps + 6) k u) ps 7 v).1 2 = N21.1 2 := fun x y z u v => by rw [mI_fn (by omega), mI_fn (by omega), mI_fn (by omega), mI_fn (by omega), sL_1]
    have e35 : ∀ (x : Int64) (y z u v : Int32), (sI (sI (sI (sI (sL N21 (ps + 3) k x) (ps + 4) k y) (ps + 5) k z) (ps + 6) k u) ps 7 v).1 3 = N21.1 3 := fun x y z u v => by rw [mI_fn (by omega), mI_fn (by omega), mI_fn (by omega), mI_fn (by omega), sL_1]
    rcases pe_cases (pNum b n L 0 60 y.2) with ⟨e, he⟩ | ⟨z, hz⟩
    · obtain ⟨rfl, w⟩ := e7 e he
      refine ⟨fun _ => ⟨_, rfl, F25 _ _ _ _ _, PBe (e := e) ?_ rfl (cFl_fr w (e25 _ _ _ _ _))⟩, fun z => absurd rfl z⟩
      unfold lnHouse
      rw [if_neg hne, bnd_o hx, bnd_o hw, bnd_o hy, bnd_e he]
    obtain ⟨rfl, t6, z1, z2⟩ := e8 z hz
    rw [I_ne (by omega) (by omega) (by omega) (by omega)]
    refine ⟨fun z => absurd z (by omega), fun _ => ⟨_, rfl, F25 _ _ _ _ _, PBk (x := ((upf (upf (upf (upf g (13 + (g 1).toNat) w) (23 + (g 1).toNat) y.1) (33 + (g 1).toNat) z.1) 1 (g 1 + 1), upf nm (5 + (g 1).toNat) x.1, on), z.2)) ?_ rfl ?_⟩⟩
    · unfold lnHouse
      rw [if_neg hne, bnd_o hx, bnd_o hw, bnd_o hy, bnd_o hz]
    · rw [hk, Int.toNat_natCast]
      exact ⟨CT_fr t6 (e25 _ _ _ _ _) (e35 _ _ _ _ _) (by show (sL N21 (ps + 3) k _).2.1 2 = _; rw [sL_ne (by omega)]) rfl, CI_house hs hp I21 hk (by omega) rfl⟩
  · refine c_failT h (by decide) fun N hF hN => ⟨Or.inl rfl, _, rfl, FS_f FS_refl hF, PBe (e := (4, tkS b n L p)) ?_ rfl hN⟩
    unfold lnHouse
    rw [if_pos (by omega)]
theorem c_readDrain {d : Nat} (h : CT M b n L p) (hI : CI M ps g nm on) (hp : St ps) (hs : RGs g) (hm : NMo g nm) : EvQ (d + 5) 250 [.ref 4] M fun r N => ∃ v, r = some (.int v) ∧ (FS ps M N ∧ PBo (lnDrain b n L g nm on p) v N fun x => CT N b n L x.2 ∧ CI N ps x.1.1 x.1.2.1 x.1.2.2) := by
  have h00 := hs.1.1
  have h0 := hs.1.2.2.1
  have hlo := St_lo hp
  obtain ⟨x1, -⟩ := St_al hp
  apply e_StreetReader_readDrain
  intro At _
  rw [hI.2.2.1, hI.1.1.2.2.1, I_lt (by omega) (by omega) (by omega) (by omega)]
  refine ⟨hp, fun q => ?_, fun q => ?_⟩
  · have hne : ¬ g 2 = 6 := by omega
    refine q_non (c_nextT h) ?_
    rintro N2 ⟨f1, t1⟩
    have I2 := CI_fr hI hp f1
    refine q_int (c_takeNewName t1 I2 hp hs hm) ?_
    rintro v N4 ⟨f2, e1, e2⟩
    rcases pe_cases (pFresh b n L g nm (tkN b n L p)) with ⟨e, he⟩ | ⟨x, hx⟩
    · obtain ⟨rfl, w⟩ := e1 e he
      refine ⟨fun _ => ⟨_, rfl, FS_f (FS_f FS_refl f1) f2, PBe (e := e) ?_ rfl w⟩, fun z => absurd rfl z⟩
      unfold lnDrain
      rw [if_neg hne, bnd_e he]
    obtain ⟨rfl, t2⟩ := e2 x hx
    have I4 := CI_fr I2 hp f2
    refine ⟨fun z => absurd z (by decide), fun _ => ?_⟩
    obtain ⟨j, hj⟩ := Nn h00.1
    rw [I4.2.2.1, I4.1.1.1, hj]
    refine ⟨hp, ?_⟩
    refine q_int (c_seeNamed (nm := nm) (f := 0) t2 x1.1 (by omega) (by omega) (fun k hk => ⟨by rw [Nat.zero_add]; exact I4.2.1.1 k (by omega), by rw [Nat.zero_add]; exact hm.1 k (by omega)⟩)) ?_
    rintro v N9 ⟨f3, e3, e4⟩
    have eqj : (g 0).toNat = j := by omega
    rcases pe_cases (pNamed b n L nm 0 j x.2) with ⟨e, he⟩ | ⟨w, hw⟩
    · obtain ⟨rfl, w⟩ := e3 e he
      refine ⟨fun _ => ⟨_, rfl, FS_f (FS_f (FS_f FS_refl f1) f2) f3, PBe (e := e) ?_ rfl w⟩, fun z => absurd rfl z⟩
      unfold lnDrain
      rw [if_neg hne, bnd_o hx, eqj, bnd_e he]
    obtain ⟨rfl, rfl, w1, w2⟩ := e4 w hw
    rw [I_ne (by omega) (by omega) (by omega) (by omega)]
    refine ⟨fun z => absurd z (by omega), fun _ => ?_⟩
    refine q_non (c_nextT t2) ?_
    rintro N14 ⟨f4, t4⟩
    refine q_int (c_takeNumber t4 (by decide) (by decide)) ?_
    rintro v N16 ⟨f5, e5, e6⟩
    have F16 : FS ps M N16 := FS_f (FS_f (FS_f (FS_f FS_refl f1) f2) f4) f5
    rcases pe_cases (pNum b n L 0 60 (tkN b n L x.2)) with ⟨e, he⟩ | ⟨y, hy⟩
    · obtain ⟨rfl, w⟩ := e5 e he
      refine ⟨fun _ => ⟨_, rfl, F16, PBe (e := e) ?_ rfl w⟩, fun z => absurd rfl z⟩
      unfold lnDrain
      rw [if_neg hne, bnd_o hx, eqj, bnd_o hw, bnd_e he]
    obtain ⟨rfl, t5, y1, y2⟩ := e6 y hy
    rw [I_ne (by omega) (by omega) (by omega) (by omega)]
    refine ⟨fun z => absurd z (by omega), fun _ => ?_⟩
    refine q_int (c_takeNumber t5 (by decide) (by decide)) ?_
    rintro v N21 ⟨f6, e7, e8⟩
    have F21 := FS_f F16 f6
    have I21 := CI_fr (CI_fr (CI_fr I4 hp f4) hp f5) hp f6
    obtain ⟨a1, a2, a3⟩ := pFresh_ok hx
    obtain ⟨k, hk⟩ := Nn h0.1
    have l7 := t1.2.2.2.2.2.1 a1
    rw [I21.2.2.1, l7, ← a2]
    have I21w := I21.1.1.2.2.1
    rw [hk] at I21w
    refine ⟨hp, _, c_addDrain hp I21w (by omega), ?_⟩
    have F25 : ∀ (x : Int64) (y z u v : Int32), FS ps M (sI (sI (sI (sI (sL N21 (ps + 7) k x) (ps + 8) k y) (ps + 9) k z) (ps + 10) k u) ps 12 v) := fun x y z u v => FS_i (FS_i (FS_i (FS_i (FS_l F21 (by omega)) (by omega)) (by omega)) (by omega)) (by omega)
    have e25 : ∀ (x : Int64) (y z u v : Int32), (sI (sI (sI (sI (sL N21 (ps + 7) k x) (ps + 8) k y) (ps + 9) k z) (ps + 10) k u) ps 12 v).1 2 = N21.1 2 := fun x y z u v => by rw [mI_fn (by omega), mI_fn (by omega), mI_fn (by omega), mI_fn (by omega), sL_1]
    have e35 : ∀ (x : Int64) (y z u v : Int32), (sI (sI (sI (sI (sL N21 (ps + 7) k x) (ps + 8) k y) (ps + 9) k z) (ps + 10) k u) ps 12 v).1 3 = N21.1 3 := fun x y z u v => by rw [mI_fn (by omega), mI_fn (by omega), mI_fn (by omega), mI_fn (by omega), sL_1]
    rcases pe_cases (pNum b n L 1 40 y.2) with ⟨e, he⟩ | ⟨z, hz⟩
    · obtain ⟨rfl, w⟩ := e7 e he
      refine ⟨fun _ => ⟨_, rfl, F25 _ _ _ _ _, PBe (e := e) ?_ rfl (cFl_fr w (e25 _ _ _ _ _))⟩, fun z => absurd rfl z⟩
      unfold lnDrain
      rw [if_neg hne, bnd_o hx, eqj, bnd_o hw, bnd_o hy, bnd_e he]
    obtain ⟨rfl, t6, z1, z2⟩ := e8 z hz
    rw [I_ne (by omega) (by omega) (by omega) (by omega)]
    refine ⟨fun z => absurd z (by omega), fun _ => ⟨_, rfl, F25 _ _ _ _ _, PBk (x := ((upf (upf (upf (upf g (43 + (g 2).toNat) w) (49 + (g 2).toNat) y.1) (55 + (g 2).toNat) z.1) 2 (g 2 + 1), upf nm (15 + (g 2).toNat) x.1, on), z.2)) ?_ rfl ?_⟩⟩
    · unfold lnDrain
      rw [if_neg hne, bnd_o hx, eqj, bnd_o hw, bnd_o hy, bnd_o hz]
    · rw [hk, Int.toNat_natCast]
      exact ⟨CT_fr t6 (e25 _ _ _ _ _) (e35 _ _ _ _ _) (by show (sL N21 (ps + 7) k _).2.1 2 = _; rw [sL_ne (by omega)]) rfl, CI_drain hs hp I21 hk (by omega) rfl⟩
  · refine c_failT h (by decide) fun N hF hN => ⟨Or.inl rfl, _, rfl, FS_f FS_refl hF, PBe (e := (4, tkS b n L p)) ?_ rfl hN⟩
    unfold lnDrain
    rw [if_pos (by omega)]
end CRE
