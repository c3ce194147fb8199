/-! ===== a street's text: the class's reader, pairs, numbers told once, lines ===== -/
section CRF
variable {M : Mm} {b : Nat → Nat} {n L p ps on : Nat} {g : Nat → Int} {nm : Nat → List Nat}
theorem Pr_al {q no : Nat} (h : Pr q no) : alen (q + 1) = no ∧ 100 ≤ q ∧ no ≤ 8 := by
  rcases h with ⟨rfl | rfl | rfl | rfl, rfl⟩ | ⟨rfl | rfl | rfl | rfl, rfl⟩ <;> decide
theorem c_isFull {d q no k : Nat} (hq : Pr q no) (e : M.1 q 2 = I (k : Int)) (hk : k ≤ no) : Ev (d + 1) 179 [.ref q] M (some (.int (I (if k = no then 1 else 0)))) M := by
  have ha := Pr_al hq
  apply Ev.ofQ
  apply e_Pairs_isFull hq
  intro At _
  rw [e, ha.1, I_lt (by omega) (by omega) (by omega) (by omega)]
  refine ⟨fun z => ?_, fun z => ?_⟩
  · rw [if_neg (by omega)]
    exact ⟨rfl, rfl⟩
  · rw [if_pos (by omega)]
    exact ⟨rfl, rfl⟩
theorem c_pairsAdd {d q no k : Nat} {x y : Int32} (hq : Pr q no) (e : M.1 q 2 = I (k : Int)) (hk : k < no) : Ev (d + 2) 181 [.ref q, .int x, .int y] M none (sI (sI (sI M (q + 1) k x) (q + 2) k y) q 2 (I ((k : Int) + 1))) := by
  have ha := Pr_al hq
  apply Ev.ofQ
  apply e_Pairs_add hq
  intro At _
  refine ⟨_, _, c_isFull hq e (by omega), fun _ => ?_, fun z => ?_⟩
  · have e1 : (sI M (q + 1) k x).1 q 2 = I (k : Int) := by rw [mI_n1 (by omega), e]
    have e2 : (sI (sI M (q + 1) k x) (q + 2) k y).1 q 2 = I (k : Int) := by rw [mI_n1 (by omega), e1]
    rw [e, ixI (by omega) (by omega), Int.toNat_natCast, e1, ixI (by omega) (by omega), Int.toNat_natCast, e2, I_add]
    exact ⟨inRI (by omega) (by omega) (by omega), inRI (by omega) (by omega) (by omega), fun N6 hN => ⟨rfl, hN⟩⟩
  · rw [bI0] at z
    exact absurd (by omega) z
theorem c_readPair {d q no cnt fst snd : Nat} {high lo hi : Int} (hq : Pr q no) (h : CT M b n L p) (e0 : 0 ≤ g cnt ∧ g cnt ≤ no) (e1 : M.1 q 2 = I (g cnt)) (e2 : ∀ k : Nat, (k : Int) < g cnt → M.1 (q + 1) k = I (g (fst + k))) (eb : ∀ k : Nat, (k : Int) < g cnt → 0 ≤ g (fst + k) ∧ g (fst + k) < 1000) (hh : 0 ≤ high ∧ high < 1000) (hl : 0 ≤ lo ∧ lo < 1000) (hi2 : 0 ≤ hi ∧ hi < 1000) : EvQ (d + 5) 252 [.ref 4, .ref q, .int (I high), .int (I lo), .int (I hi)] M fun r N => ∃ v, r = some (.int v) ∧ (∃ K, Fr 2 3 M K ∧ (N = K ∨ ∃ x y, N = sI (sI (sI K (q + 1) (g cnt).toNat x) (q + 2) (g cnt).toNat y) q 2 (I (g cnt + 1))) ∧ PBo (lnPair b n L cnt no fst high snd lo hi g nm on p) v N fun z => CT N b n L z.2 ∧ ∃ x y, z.1 = (upf (upf (upf g (fst + (g cnt).toNat) x) (snd + (g cnt).toNat) y) cnt (g cnt + 1), nm, on) ∧ N = sI (sI (sI K (q + 1) (g cnt).toNat (I x)) (q + 2) (g cnt).toNat (I y)) q 2 (I (g cnt + 1))) := by
  obtain ⟨ha, hlo, h8⟩ := Pr_al hq
  obtain ⟨k, hk⟩ := Nn e0.1
  have e1k : M.1 q 2 = I (k : Int) := by rw [e1, hk]
  apply e_StreetReader_readPair hq
  intro At _
  refine ⟨_, _, c_isFull hq e1k (by omega), fun z => ?_, fun z => ?_⟩
  · rw [bI0] at z
    have hne : ¬ g cnt = (no : Int) := by omega
    refine q_non (c_nextT h) ?_
    rintro N6 ⟨f1, t1⟩
    refine q_int (c_seeNumber t1 (by decide) hh) ?_
    rintro v N8 ⟨f2, e3, e4⟩
    rcases pe_cases (pSee b n L 0 high (tkN b n L p)) with ⟨e, he⟩ | ⟨x, hx⟩
    · obtain ⟨rfl, w⟩ := e3 e he
      refine ⟨fun _ => ⟨_, rfl, N8, f1.trans f2, Or.inl rfl, PBe (e := e) ?_ rfl w⟩, fun z => absurd rfl z⟩
      unfold lnPair
      rw [if_neg hne, bnd_e he]
    obtain ⟨rfl, rfl, x1, x2⟩ := e4 x hx
    rw [I_ne (by omega) (by omega) (by omega) (by omega)]
    refine ⟨fun z => absurd z (by omega), fun _ => ?_⟩
    have e6 : N8.1 q 2 = I (k : Int) := by rw [(f1 q (by omega)).1, e1k]
    refine ⟨_, _, c_has (ks := fun i => g (fst + i)) hq e6 (by omega) (fun i hi => by rw [(f1 (q + 1) (by omega)).1]; exact e2 i (by omega)) (by omega) (fun i hi => by have := eb i (by omega); show -2147483648 ≤ g (fst + i) ∧ g (fst + i) < 2147483648; omega), fun z => ?_, fun z => ?_⟩
    · rw [bI0] at z
      refine q_non (c_nextT t1) ?_
      rintro N18 ⟨f3, t3⟩
      refine q_int (c_takeNumber t3 hl hi2) ?_
      rintro v N20 ⟨f4, e7, e8⟩
      have F20 : Fr 2 3 M N20 := (f1.trans f3).trans f4
      have e20 : N20.1 q 2 = I (k : Int) := by rw [(F20 q (by omega)).1, e1k]
      refine ⟨_, c_pairsAdd hq e20 (by omega), ?_⟩
      rw [hk, Int.toNat_natCast]
      have c2 : ¬ ∃ i, i < (g cnt).toNat ∧ g (fst + i) = x := by
        rw [hk, Int.toNat_natCast]
        exact z
      have m2 : ∀ (x y : Int32), (sI (sI (sI N20 (q + 1) k x) (q + 2) k y) q 2 (I ((k : Int) + 1))).1 2 = N20.1 2 := fun x y => by rw [mI_fn (by omega), mI_fn (by omega), mI_fn (by omega)]
      have m3 : ∀ (x y : Int32), (sI (sI (sI N20 (q + 1) k x) (q + 2) k y) q 2 (I ((k : Int) + 1))).1 3 = N20.1 3 := fun x y => by rw [mI_fn (by omega), mI_fn (by omega), mI_fn (by omega)]
      rcases pe_cases (pNum b n L lo hi (tkN b n L (tkN b n L p))) with ⟨e, he⟩ | ⟨y, hy⟩
      · obtain ⟨rfl, w⟩ := e7 e he
        refine ⟨fun _ => ⟨_, rfl, N20, F20, Or.inr ⟨_, _, rfl⟩, PBe (e := e) ?_ rfl (cFl_fr w (m2 _ _))⟩, fun z => absurd rfl z⟩
        unfold lnPair
        rw [if_neg hne, bnd_o hx, if_neg c2, bnd_e he]
      · obtain ⟨rfl, t4, y1, y2⟩ := e8 y hy
        rw [I_ne (by omega) (by omega) (by omega) (by omega)]
        refine ⟨fun z => absurd z (by omega), fun _ => ⟨_, rfl, N20, F20, Or.inr ⟨_, _, rfl⟩, PBk (x := ((upf (upf (upf g (fst + (g cnt).toNat) x) (snd + (g cnt).toNat) y.1) cnt (g cnt + 1), nm, on), y.2)) ?_ rfl ⟨CT_fr t4 (m2 _ _) (m3 _ _) rfl rfl, x, y.1, by rw [hk, Int.toNat_natCast], rfl⟩⟩⟩
        unfold lnPair
        rw [if_neg hne, bnd_o hx, if_neg c2, bnd_o hy]
    · have c2 : ∃ i, i < (g cnt).toNat ∧ g (fst + i) = x := by
        rw [hk, Int.toNat_natCast]
        exact Classical.byContradiction fun y => z (by rw [bI0]; exact y)
      refine c_failT t1 (by decide) fun N hF hN => ⟨Or.inl rfl, _, rfl, N, f1.trans hF, Or.inl rfl, PBe (e := (3, tkS b n L (tkN b n L p))) ?_ rfl hN⟩
      unfold lnPair
      rw [if_neg hne, bnd_o hx, if_pos c2]
  · have z2 : k = no := Classical.byContradiction fun y => z (by rw [bI0]; exact y)
    refine c_failT h (by decide) fun N hF hN => ⟨Or.inl rfl, _, rfl, N, hF, Or.inl rfl, PBe (e := (4, tkS b n L p)) ?_ rfl hN⟩
    unfold lnPair
    rw [if_pos (by omega)]
theorem bt_or1 {on k : Nat} : bt (on ||| 2 ^ k) k = 1 := by
  rw [bt_or, bt_pow, if_pos rfl, if_pos (Or.inr rfl)]
theorem bt_or2 {on k j : Nat} (h : j ≠ k) : bt (on ||| 2 ^ k) j = bt on j := by
  have := bt_lt on j
  rw [bt_or, bt_pow, if_neg h]
  by_cases c : bt on j = 1
  · rw [if_pos (Or.inl c), c]
  · rw [if_neg (by omega)]
    omega
theorem c_readPeople {d : Nat} (h : CT M b n L p) (hI : CI M ps g nm on) (hp : St ps) (hs : RGs g) : EvQ (d + 5) 253 [.ref 4] M fun r N => ∃ v, r = some (.int v) ∧ (FS ps M N ∧ PBo (lnOnce b n L 0 5 1 60 g nm on p) v N fun x => CT N b n L x.2 ∧ CI N ps x.1.1 x.1.2.1 x.1.2.2) := by
  have hlo := St_lo hp
  have b0 := bt_lt on 0
  apply e_StreetReader_readPeople
  intro At _
  rw [hI.2.2.2.1, I_ne (by omega) (by omega) (by omega) (by omega)]
  refine ⟨fun q => ?_, fun q => ?_⟩
  · have hne : ¬ bt on 0 = 1 := by omega
    have h2 : CT (sI M 4 2 (I 1)) b n L p := CT_fr h (mI_fn (by decide)) (mI_fn (by decide)) rfl rfl
    refine q_non (c_nextT h2) ?_
    rintro N2 ⟨f1, t1⟩
    refine q_int (c_takeNumber t1 (by decide) (by decide)) ?_
    rintro v N4 ⟨f2, e3, e4⟩
    have f12 := f1.trans f2
    have r1a : N2.2.2 4 1 = ps := by rw [(f1 4 (by omega)).2.2]; exact hI.2.2.1
    have r1b : N4.2.2 4 1 = ps := by rw [(f12 4 (by omega)).2.2]; exact hI.2.2.1
    rw [r1a, r1b, mI_eq]
    refine ⟨hp, hp, ?_⟩
    have F4 : ∀ v : Int32, FS ps M (sI N4 ps 15 v) := fun v => FS_i (FS_f (FS_i FS_refl (by omega)) f12) (by omega)
    rcases pe_cases (pNum b n L 1 60 (tkN b n L p)) with ⟨e, he⟩ | ⟨y, hy⟩
    · obtain ⟨rfl, w⟩ := e3 e he
      refine ⟨fun _ => ⟨_, rfl, F4 _, PBe (e := e) ?_ rfl (cFl_fr w (mI_fn (by omega)))⟩, fun z => absurd rfl z⟩
      unfold lnOnce
      rw [if_neg hne, bnd_e he]
    · obtain ⟨rfl, t4, y1, y2⟩ := e4 y hy
      rw [I_ne (by omega) (by omega) (by omega) (by omega)]
      refine ⟨fun z => absurd z (by omega), fun _ => ⟨_, rfl, F4 _, PBk (x := ((upf g 5 y.1, nm, on ||| 2 ^ 0), y.2)) ?_ rfl ⟨CT_fr t4 (mI_fn (by omega)) (mI_fn (by omega)) rfl rfl, ?_⟩⟩⟩
      · unfold lnOnce
        rw [if_neg hne, bnd_o hy]
      · dsimp only
        obtain ⟨⟨s1, s2, s3, s4, s5, s6⟩, ⟨m1, m2, m3⟩, r1, r2, r3, r4⟩ := hI
        have e0 : ∀ a, ps ≤ a → N4.1 a = M.1 a ∧ N4.2.1 a = M.2.1 a := fun a ha => ⟨by rw [(f12 a (by omega)).1, mI_fn (by omega)], (f12 a (by omega)).2.1⟩
        refine ⟨⟨?_, fun w hw => ?_, fun w hw => ?_, fun w hw => ?_, fun w hw => ?_, fun w hw => ?_⟩, ⟨fun w hw => ?_, fun w hw => ?_, fun w hw => ?_⟩, r1b, by rw [mI_n1 (by omega), (f12 4 (by omega)).1, mI_eq, bt_or1]; rfl, by rw [mI_n1 (by omega), (f12 4 (by omega)).1, mI_n2 (by decide), bt_or2 (by decide)]; exact r3, by rw [mI_n1 (by omega), (f12 4 (by omega)).1, mI_n2 (by decide), bt_or2 (by decide)]; exact r4⟩
        · simp (disch := omega) only [mI_eq, mI_n1, mI_n2, upf_eq, upf_ne, (e0 ps (by omega)).1, (e0 (ps + 11) (by omega)).1, (e0 (ps + 14) (by omega)).1]
          exact ⟨s1.1, s1.2.1, s1.2.2.1, s1.2.2.2.1, s1.2.2.2.2.1, trivial, s1.2.2.2.2.2.2.1, s1.2.2.2.2.2.2.2⟩
        · simp (disch := omega) only [mI_eq, mI_n1, mI_n2, upf_eq, upf_ne, (e0 (ps + 2) (by omega)).1] at hw ⊢
          exact s2 w hw
        · simp (disch := omega) only [mI_eq, mI_n1, mI_n2, upf_eq, upf_ne, (e0 (ps + 4) (by omega)).1, (e0 (ps + 5) (by omega)).1, (e0 (ps + 6) (by omega)).1] at hw ⊢
          exact s3 w hw
        · simp (disch := omega) only [mI_eq, mI_n1, mI_n2, upf_eq, upf_ne, (e0 (ps + 8) (by omega)).1, (e0 (ps + 9) (by omega)).1, (e0 (ps + 10) (by omega)).1] at hw ⊢
          exact s4 w hw
        · simp (disch := omega) only [mI_eq, mI_n1, mI_n2, upf_eq, upf_ne, (e0 (ps + 12) (by omega)).1, (e0 (ps + 13) (by omega)).1] at hw ⊢
          exact s5 w hw
        · simp (disch := omega) only [mI_eq, mI_n1, mI_n2, upf_eq, upf_ne, (e0 (ps + 15) (by omega)).1, (e0 (ps + 16) (by omega)).1] at hw ⊢
          exact s6 w hw
        · rw [upf_ne (by decide)] at hw
          show N4.2.1 (ps + 1) w = _
          rw [(e0 (ps + 1) (by omega)).2]
          exact m1 w hw
        · rw [upf_ne (by decide)] at hw
          show N4.2.1 (ps + 3) w = _
          rw [(e0 (ps + 3) (by omega)).2]
          exact m2 w hw
        · rw [upf_ne (by decide)] at hw
          show N4.2.1 (ps + 7) w = _
          rw [(e0 (ps + 7) (by omega)).2]
          exact m3 w hw
  · refine c_failT h (by decide) fun N hF hN => ⟨Or.inl rfl, _, rfl, FS_f FS_refl hF, PBe (e := (3, tkS b n L p)) ?_ rfl hN⟩
    unfold lnOnce
    rw [if_pos (by omega)]
theorem c_readSand {d : Nat} (h : CT M b n L p) (hI : CI M ps g nm on) (hp : St ps) (hs : RGs g) : EvQ (d + 5) 254 [.ref 4] M fun r N => ∃ v, r = some (.int v) ∧ (FS ps M N ∧ PBo (lnOnce b n L 1 6 0 999 g nm on p) v N fun x => CT N b n L x.2 ∧ CI N ps x.1.1 x.1.2.1 x.1.2.2) := by
  have hlo := St_lo hp
  have b0 := bt_lt on 1
  apply e_StreetReader_readSand
  intro At _
  rw [hI.2.2.2.2.1, I_ne (by omega) (by omega) (by omega) (by omega)]
  refine ⟨fun q => ?_, fun q => ?_⟩
  · have hne : ¬ bt on 1 = 1 := by omega
    have h2 : CT (sI M 4 3 (I 1)) b n L p := CT_fr h (mI_fn (by decide)) (mI_fn (by decide)) rfl rfl
    refine q_non (c_nextT h2) ?_
    rintro N2 ⟨f1, t1⟩
    refine q_int (c_takeNumber t1 (by decide) (by decide)) ?_
    rintro v N4 ⟨f2, e3, e4⟩
    have f12 := f1.trans f2
    have r1a : N2.2.2 4 1 = ps := by rw [(f1 4 (by omega)).2.2]; exact hI.2.2.1
    have r1b : N4.2.2 4 1 = ps := by rw [(f12 4 (by omega)).2.2]; exact hI.2.2.1
    rw [r1a, r1b, mI_eq]
    refine ⟨hp, hp, ?_⟩
    have F4 : ∀ v : Int32, FS ps M (sI N4 ps 16 v) := fun v => FS_i (FS_f (FS_i FS_refl (by omega)) f12) (by omega)
    rcases pe_cases (pNum b n L 0 999 (tkN b n L p)) with ⟨e, he⟩ | ⟨y, hy⟩
    · obtain ⟨rfl, w⟩ := e3 e he
      refine ⟨fun _ => ⟨_, rfl, F4 _, PBe (e := e) ?_ rfl (cFl_fr w (mI_fn (by omega)))⟩, fun z => absurd rfl z⟩
      unfold lnOnce
      rw [if_neg hne, bnd_e he]
    · obtain ⟨rfl, t4, y1, y2⟩ := e4 y hy
      rw [I_ne (by omega) (by omega) (by omega) (by omega)]
      refine ⟨fun z => absurd z (by omega), fun _ => ⟨_, rfl, F4 _, PBk (x := ((upf g 6 y.1, nm, on ||| 2 ^ 1), y.2)) ?_ rfl ⟨CT_fr t4 (mI_fn (by omega)) (mI_fn (by omega)) rfl rfl, ?_⟩⟩⟩
      · unfold lnOnce
        rw [if_neg hne, bnd_o hy]
      · dsimp only
        obtain ⟨⟨s1, s2, s3, s4, s5, s6⟩, ⟨m1, m2, m3⟩, r1, r2, r3, r4⟩ := hI
        have e0 : ∀ a, ps ≤ a → N4.1 a = M.1 a ∧ N4.2.1 a = M.2.1 a := fun a ha => ⟨by rw [(f12 a (by omega)).1, mI_fn (by omega)], (f12 a (by omega)).2.1⟩
        refine ⟨⟨?_, fun w hw => ?_, fun w hw => ?_, fun w hw => ?_, fun w hw => ?_, fun w hw => ?_⟩, ⟨fun w hw => ?_, fun w hw => ?_, fun w hw => ?_⟩, r1b, by rw [mI_n1 (by omega), (f12 4 (by omega)).1, mI_n2 (by decide), bt_or2 (by decide)]; exact r2, by rw [mI_n1 (by omega), (f12 4 (by omega)).1, mI_eq, bt_or1]; rfl, by rw [mI_n1 (by omega), (f12 4 (by omega)).1, mI_n2 (by decide), bt_or2 (by decide)]; exact r4⟩
        · simp (disch := omega) only [mI_eq, mI_n1, mI_n2, upf_eq, upf_ne, (e0 ps (by omega)).1, (e0 (ps + 11) (by omega)).1, (e0 (ps + 14) (by omega)).1]
          exact ⟨s1.1, s1.2.1, s1.2.2.1, s1.2.2.2.1, s1.2.2.2.2.1, s1.2.2.2.2.2.1, trivial, s1.2.2.2.2.2.2.2⟩
        · simp (disch := omega) only [mI_eq, mI_n1, mI_n2, upf_eq, upf_ne, (e0 (ps + 2) (by omega)).1] at hw ⊢
          exact s2 w hw
        · simp (disch := omega) only [mI_eq, mI_n1, mI_n2, upf_eq, upf_ne, (e0 (ps + 4) (by omega)).1, (e0 (ps + 5) (by omega)).1, (e0 (ps + 6) (by omega)).1] at hw ⊢
          exact s3 w hw
        · simp (disch := omega) only [mI_eq, mI_n1, mI_n2, upf_eq, upf_ne, (e0 (ps + 8) (by omega)).1, (e0 (ps + 9) (by omega)).1, (e0 (ps + 10) (by omega)).1] at hw ⊢
          exact s4 w hw
        · simp (disch := omega) only [mI_eq, mI_n1, mI_n2, upf_eq, upf_ne, (e0 (ps + 12) (by omega)).1, (e0 (ps + 13) (by omega)).1] at hw ⊢
          exact s5 w hw
        · simp (disch := omega) only [mI_eq, mI_n1, mI_n2, upf_eq, upf_ne, (e0 (ps + 15) (by omega)).1, (e0 (ps + 16) (by omega)).1] at hw ⊢
          exact s6 w hw
        · rw [upf_ne (by decide)] at hw
          show N4.2.1 (ps + 1) w = _
          rw [(e0 (ps + 1) (by omega)).2]
          exact m1 w hw
        · rw [upf_ne (by decide)] at hw
          show N4.2.1 (ps + 3) w = _
          rw [(e0 (ps + 3) (by omega)).2]
          exact m2 w hw
        · rw [upf_ne (by decide)] at hw
          show N4.2.1 (ps + 7) w = _
          rw [(e0 (ps + 7) (by omega)).2]
          exact m3 w hw
  · refine c_failT h (by decide) fun N hF hN => ⟨Or.inl rfl, _, rfl, FS_f FS_refl hF, PBe (e := (3, tkS b n L p)) ?_ rfl hN⟩
    unfold lnOnce
    rw [if_pos (by omega)]
theorem c_readRate {d : Nat} (h : CT M b n L p) (hI : CI M ps g nm on) (hp : St ps) (hs : RGs g) : EvQ (d + 5) 255 [.ref 4] M fun r N => ∃ v, r = some (.int v) ∧ (FS ps M N ∧ PBo (lnOnce b n L 2 7 1 20 g nm on p) v N fun x => CT N b n L x.2 ∧ CI N ps x.1.1 x.1.2.1 x.1.2.2) := by
  have hlo := St_lo hp
  have b0 := bt_lt on 2
  apply e_StreetReader_readRate
  intro At _
  rw [hI.2.2.2.2.2, I_ne (by omega) (by omega) (by omega) (by omega)]
  refine ⟨fun q => ?_, fun q => ?_⟩
  · have hne : ¬ bt on 2 = 1 := by omega
    have h2 : CT (sI M 4 4 (I 1)) b n L p := CT_fr h (mI_fn (by decide)) (mI_fn (by decide)) rfl rfl
    refine q_non (c_nextT h2) ?_
    rintro N2 ⟨f1, t1⟩
    refine q_int (c_takeNumber t1 (by decide) (by decide)) ?_
    rintro v N4 ⟨f2, e3, e4⟩
    have f12 := f1.trans f2
    have r1a : N2.2.2 4 1 = ps := by rw [(f1 4 (by omega)).2.2]; exact hI.2.2.1
    have r1b : N4.2.2 4 1 = ps := by rw [(f12 4 (by omega)).2.2]; exact hI.2.2.1
    rw [r1a, r1b, mI_eq]
    refine ⟨hp, hp, ?_⟩
    have F4 : ∀ v : Int32, FS ps M (sI N4 ps 17 v) := fun v => FS_i (FS_f (FS_i FS_refl (by omega)) f12) (by omega)
    rcases pe_cases (pNum b n L 1 20 (tkN b n L p)) with ⟨e, he⟩ | ⟨y, hy⟩
    · obtain ⟨rfl, w⟩ := e3 e he
      refine ⟨fun _ => ⟨_, rfl, F4 _, PBe (e := e) ?_ rfl (cFl_fr w (mI_fn (by omega)))⟩, fun z => absurd rfl z⟩
      unfold lnOnce
      rw [if_neg hne, bnd_e he]
    · obtain ⟨rfl, t4, y1, y2⟩ := e4 y hy
      rw [I_ne (by omega) (by omega) (by omega) (by omega)]
      refine ⟨fun z => absurd z (by omega), fun _ => ⟨_, rfl, F4 _, PBk (x := ((upf g 7 y.1, nm, on ||| 2 ^ 2), y.2)) ?_ rfl ⟨CT_fr t4 (mI_fn (by omega)) (mI_fn (by omega)) rfl rfl, ?_⟩⟩⟩
      · unfold lnOnce
        rw [if_neg hne, bnd_o hy]
      · dsimp only
        obtain ⟨⟨s1, s2, s3, s4, s5, s6⟩, ⟨m1, m2, m3⟩, r1, r2, r3, r4⟩ := hI
        have e0 : ∀ a, ps ≤ a → N4.1 a = M.1 a ∧ N4.2.1 a = M.2.1 a := fun a ha => ⟨by rw [(f12 a (by omega)).1, mI_fn (by omega)], (f12 a (by omega)).2.1⟩
        refine ⟨⟨?_, fun w hw => ?_, fun w hw => ?_, fun w hw => ?_, fun w hw => ?_, fun w hw => ?_⟩, ⟨fun w hw => ?_, fun w hw => ?_, fun w hw => ?_⟩, r1b, by rw [mI_n1 (by omega), (f12 4 (by omega)).1, mI_n2 (by decide), bt_or2 (by decide)]; exact r2, by rw [mI_n1 (by omega), (f12 4 (by omega)).1, mI_n2 (by decide), bt_or2 (by decide)]; exact r3, by rw [mI_n1 (by omega), (f12 4 (by omega)).1, mI_eq, bt_or1]; rfl⟩
        · simp (disch := omega) only [mI_eq, mI_n1, mI_n2, upf_eq, upf_ne, (e0 ps (by omega)).1, (e0 (ps + 11) (by omega)).1, (e0 (ps + 14) (by omega)).1]
          exact ⟨s1.1, s1.2.1, s1.2.2.1, s1.2.2.2.1, s1.2.2.2.2.1, s1.2.2.2.2.2.1, s1.2.2.2.2.2.2.1, trivial⟩
        · simp (disch := omega) only [mI_eq, mI_n1, mI_n2, upf_eq, upf_ne, (e0 (ps + 2) (by omega)).1] at hw ⊢
          exact s2 w hw
        · simp (disch := omega) only [mI_eq, mI_n1, mI_n2, upf_eq, upf_ne, (e0 (ps + 4) (by omega)).1, (e0 (ps + 5) (by omega)).1, (e0 (ps + 6) (by omega)).1] at hw ⊢
          exact s3 w hw
        · simp (disch := omega) only [mI_eq, mI_n1, mI_n2, upf_eq, upf_ne, (e0 (ps + 8) (by omega)).1, (e0 (ps + 9) (by omega)).1, (e0 (ps + 10) (by omega)).1] at hw ⊢
          exact s4 w hw
        · simp (disch := omega) only [mI_eq, mI_n1, mI_n2, upf_eq, upf_ne, (e0 (ps + 12) (by omega)).1, (e0 (ps + 13) (by omega)).1] at hw ⊢
          exact s5 w hw
        · simp (disch := omega) only [mI_eq, mI_n1, mI_n2, upf_eq, upf_ne, (e0 (ps + 15) (by omega)).1, (e0 (ps + 16) (by omega)).1] at hw ⊢
          exact s6 w hw
        · rw [upf_ne (by decide)] at hw
          show N4.2.1 (ps + 1) w = _
          rw [(e0 (ps + 1) (by omega)).2]
          exact m1 w hw
        · rw [upf_ne (by decide)] at hw
          show N4.2.1 (ps + 3) w = _
          rw [(e0 (ps + 3) (by omega)).2]
          exact m2 w hw
        · rw [upf_ne (by decide)] at hw
          show N4.2.1 (ps + 7) w = _
          rw [(e0 (ps + 7) (by omega)).2]
          exact m3 w hw
  · refine c_failT h (by decide) fun N hF hN => ⟨Or.inl rfl, _, rfl, FS_f FS_refl hF, PBe (e := (3, tkS b n L p)) ?_ rfl hN⟩
    unfold lnOnce
    rw [if_pos (by omega)]
end CRF
