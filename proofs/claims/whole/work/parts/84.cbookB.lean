/-! ===== a book's text: the class's reader, lines ===== -/
theorem mR_n3 {M : Mm} {a k j v : Nat} (h : j ≠ k) : (sR M a k v).2.2 a j = M.2.2 a j := by
  show up2 M.2.2 a k v a j = _
  rw [up2_eq, upf_ne h]
theorem mR_fn {M : Mm} {a k c v : Nat} (h : c ≠ a) : (sR M a k v).2.2 c = M.2.2 c := up2_ne h
def bk00 : Nat → BL := fun _ => (0, 0, 0, 0)
section CBT
variable {M : Mm} {b : Nat → Nat} {n L p ps m : Nat} {g : Nat → Int} {nm : Nat → List Nat} {bk : Nat → BL}
def pPl (b : Nat → Nat) (n L : Nat) (g : Nat → Int) (nm : Nat → List Nat) (c p : Nat) : PE Int := if c = 3 then pSee b n L 1 24 p else if c = 1 then pNamed b n L nm 0 (g 0).toNat p else pNamed b n L nm 5 (g 1).toNat p
def pPlL (b : Nat → Nat) (n L : Nat) (g : Nat → Int) (nm : Nat → List Nat) (c p : Nat) : PE (BL × Nat) := bnd (pPl b n L g nm c p) fun w => .ok ((c, w, 0, 0), tkN b n L p)
theorem c_placeTail {d c : Nat} {R : PE Int} {v : Int32} {N2 : Mm} (h : CT M b n L p) (hm : M.1 30 4 = I (m : Int)) (hm4 : m < 40) (hF : Fr 2 3 M N2) (hR : PN1 R v N2 fun x => N2 = M ∧ 0 ≤ x ∧ x < 100) : inR (I (m : Int)) 40 ∧ (inR (N2.1 30 4) 40 ∧ (∃ (v7 : Int32), ∃ (N6 : Mm), (Ev (d + 4) 174 [.ref 2, .int ((sI N2 34 m v).1 34 (N2.1 30 4).toNatClampNeg)] (sI N2 34 m v) (some (.int v7)) N6 ∧ ((v7 = I 0 ∨ v7 = I 1) ∧ ∃ v', some (Value.int v7) = some (.int v') ∧ (Fr2 2 3 34 35 M N6 ∧ (∀ i, i ≠ m → N6.1 34 i = M.1 34 i) ∧ PBo (bnd R fun w => .ok (((c, w, 0, 0) : BL), tkN b n L p)) v' N6 fun z => CT N6 b n L z.2 ∧ z.1.1 = c ∧ N6.1 34 m = I z.1.2.1))))) := by
  have m2 : N2.1 30 4 = I (m : Int) := by rw [(hF 30 (by omega)).1, hm]
  rw [m2, ixI (by omega) (by omega), Int.toNat_natCast, mI_eq]
  refine ⟨inRI (by omega) (by omega) (by omega), inRI (by omega) (by omega) (by omega), ?_⟩
  have F2 : ∀ v, Fr2 2 3 34 35 M (sI N2 34 m v) := fun v => (Fr.two hF).trans (Fr.two' (Fr.sI (by omega) (by omega)))
  have K2 : ∀ v i, i ≠ m → (sI N2 34 m v).1 34 i = M.1 34 i := fun v i hi => by rw [mI_n2 hi, (hF 34 (by omega)).1]
  rcases pe_cases R with ⟨e, he⟩ | ⟨t, ht⟩
  · obtain ⟨rfl, w⟩ := hR.1 e he
    exact ⟨_, _, c_movesNo, Or.inl rfl, _, rfl, F2 _, K2 _, PBe (e := e) (bnd_e he) rfl (cFl_fr w (mI_fn (by decide)))⟩
  obtain ⟨rfl, rfl, z1, z2⟩ := hR.2 t ht
  have t11 : CT (sI N2 34 m (I t)) b n L p := CT_fr h (mI_fn (by decide)) (mI_fn (by decide)) rfl rfl
  obtain ⟨r, N15, hE, rfl, f15, t15⟩ := c_movesOn (d := d) t11 (x := t) (by omega)
  refine ⟨_, N15, hE, Or.inr rfl, _, rfl, (F2 _).trans (Fr.two f15), fun i hi => ?_, PBk (x := ((c, t, 0, 0), tkN b n L p)) (bnd_o ht) rfl ⟨t15, rfl, ?_⟩⟩
  · rw [(f15 34 (by omega)).1]
    exact K2 _ i hi
  · rw [(f15 34 (by omega)).1, mI_eq]
theorem c_readPlace {d c : Nat} (h : CT M b n L p) (hn : CN0 M ps g nm) (hm : M.1 30 4 = I (m : Int)) (hm4 : m < 40) (hc : c = 1 ∨ c = 2 ∨ c = 3) : EvQ (d + 5) 173 [.ref 30, .ref 2, .ref ps, .ref (609 + c)] M fun r N => ∃ v, r = some (.int v) ∧ (Fr2 2 3 34 35 M N ∧ (∀ i, i ≠ m → N.1 34 i = M.1 34 i) ∧ PBo (pPlL b n L g nm c p) v N fun z => CT N b n L z.2 ∧ z.1.1 = c ∧ N.1 34 m = I z.1.2.1) := by
  have hp := hn.1
  apply e_Book_readPlace hp
  intro At _
  rw [hm, ixI (by omega) (by omega), Int.toNat_natCast]
  refine ⟨Or.inr (by omega), fun q => ?_, fun q => ⟨fun q2 => ?_, fun q2 => ?_⟩⟩
  · have e : pPlL b n L g nm c p = bnd (pSee b n L 1 24 p) fun w => .ok ((c, w, 0, 0), tkN b n L p) := by
      unfold pPlL pPl
      rw [if_pos (by omega)]
    rw [e]
    refine q_int (c_seeNumber h (by decide) (by decide)) ?_
    rintro v N ⟨hF, e1, e2⟩
    exact c_placeTail h hm hm4 hF ⟨e1, fun x hx => ⟨(e2 x hx).1, (e2 x hx).2.1, by have := (e2 x hx).2.2; omega⟩⟩
  · have e : pPlL b n L g nm c p = bnd (pNamed b n L nm 0 (g 0).toNat p) fun w => .ok ((c, w, 0, 0), tkN b n L p) := by
      unfold pPlL pPl
      rw [if_neg (by omega), if_pos (by omega)]
    rw [e, hn.2.1.1.1]
    refine q_int (c_seeWall h hn) ?_
    rintro v N ⟨hF, hR⟩
    exact c_placeTail h hm hm4 hF hR
  · have e : pPlL b n L g nm c p = bnd (pNamed b n L nm 5 (g 1).toNat p) fun w => .ok ((c, w, 0, 0), tkN b n L p) := by
      unfold pPlL pPl
      rw [if_neg (by omega), if_neg (by omega)]
    rw [e, hn.2.1.1.2.1]
    refine q_int (c_seeHouse h hn) ?_
    rintro v N ⟨hF, hR⟩
    exact c_placeTail h hm hm4 hF hR
def bkBd (b : Nat → Nat) (n L : Nat) (g : Nat → Int) (nm : Nat → List Nat) (c m p : Nat) : PE (BL × Nat) := if m = 40 then .error (4, tkS b n L p) else if c = 0 then pPost b n L g nm (tkN b n L p) else pPlL b n L g nm c (tkN b n L p)
theorem c_bkBody {d c V : Nat} (h : CT M b n L p) (hn : CN0 M ps g nm) (hk : CBk M m bk) (hm4 : m ≤ 40) (hc : c ≤ 3) (hV : V = 609 + c) : (((M.1 30 4) < (I 40)) → ∃ (N3 : Mm), (Ev (d + 5) 260 [.ref 2] M none N3 ∧ (inR (N3.1 30 4) 40 ∧ (rE V) ∧ (((V = 609) → ∃ (v7 : Int32), ∃ (N6 : Mm), (Ev (d + 5) 171 [.ref 30, .ref 2, .ref ps] (sR N3 31 (N3.1 30 4).toNatClampNeg V) (some (.int v7)) N6 ∧ ((v7 = I 0 ∨ v7 = I 1) ∧ ∃ v', some (Value.int v7) = some (.int v') ∧ (Fr2 2 3 30 35 M (sI N6 30 4 ((N6.1 30 4) + (I 1))) ∧ (∀ k, k ≠ 4 → (sI N6 30 4 ((N6.1 30 4) + (I 1))).1 30 k = M.1 30 k) ∧ PBo (bkBd b n L g nm c m p) v' (sI N6 30 4 ((N6.1 30 4) + (I 1))) fun x => CT (sI N6 30 4 ((N6.1 30 4) + (I 1))) b n L x.2 ∧ CBk (sI N6 30 4 ((N6.1 30 4) + (I 1))) (m + 1) (upf bk m x.1))))) ∧ (¬ (V = 609) → ∃ (v11 : Int32), ∃ (N10 : Mm), (Ev (d + 5) 173 [.ref 30, .ref 2, .ref ps, .ref V] (sR N3 31 (N3.1 30 4).toNatClampNeg V) (some (.int v11)) N10 ∧ ((v11 = I 0 ∨ v11 = I 1) ∧ ∃ v', some (Value.int v11) = some (.int v') ∧ (Fr2 2 3 30 35 M (sI N10 30 4 ((N10.1 30 4) + (I 1))) ∧ (∀ k, k ≠ 4 → (sI N10 30 4 ((N10.1 30 4) + (I 1))).1 30 k = M.1 30 k) ∧ PBo (bkBd b n L g nm c m p) v' (sI N10 30 4 ((N10.1 30 4) + (I 1))) fun x => CT (sI N10 30 4 ((N10.1 30 4) + (I 1))) b n L x.2 ∧ CBk (sI N10 30 4 ((N10.1 30 4) + (I 1))) (m + 1) (upf bk m x.1))))))))) ∧ (¬ ((M.1 30 4) < (I 40)) → ∃ (v15 : Int32), ∃ (N14 : Mm), (Ev (d + 5) 266 [.ref 2, .int (I 4)] M (some (.int v15)) N14 ∧ ((v15 = I 0 ∨ v15 = I 1) ∧ ∃ v', some (Value.int v15) = some (.int v') ∧ (Fr2 2 3 30 35 M N14 ∧ (∀ k, k ≠ 4 → N14.1 30 k = M.1 30 k) ∧ PBo (bkBd b n L g nm c m p) v' N14 fun x => CT N14 b n L x.2 ∧ CBk N14 (m + 1) (upf bk m x.1))))) := by
  have hp := hn.1
  have hlo := St_lo hp
  rw [hk.1, I_lt (by omega) (by omega) (by omega) (by omega)]
  refine ⟨fun q => ?_, fun q => ?_⟩
  · have hm40 : ¬ m = 40 := by omega
    refine q_non (c_nextT h) ?_
    rintro N3 ⟨f3, t3⟩
    have m3 : N3.1 30 4 = I (m : Int) := by rw [(f3 30 (by omega)).1, hk.1]
    rw [m3, ixI (by omega) (by omega), Int.toNat_natCast]
    have t3' : CT (sR N3 31 m V) b n L (tkN b n L p) := CT_fr t3 rfl rfl rfl (mR_fn (by decide))
    have hn3 : CN0 (sR N3 31 m V) ps g nm := CN0_fr hn fun a a1 a2 => ⟨(f3 a (by omega)).1, (f3 a (by omega)).2.1⟩
    have m3' : (sR N3 31 m V).1 30 4 = I (m : Int) := m3
    have F3 : ∀ a, a ≠ 2 → a ≠ 31 → (sR N3 31 m V).1 a = M.1 a ∧ (sR N3 31 m V).2.1 a = M.2.1 a ∧ (sR N3 31 m V).2.2 a = M.2.2 a := fun a a1 a2 => ⟨(f3 a (by omega)).1, (f3 a (by omega)).2.1, by rw [mR_fn a2]; exact (f3 a (by omega)).2.2⟩
    have B3 : ∀ a, a ≠ 2 → (sR N3 31 m V).1 a = M.1 a ∧ (sR N3 31 m V).2.1 a = M.2.1 a := fun a a1 => ⟨(f3 a (by omega)).1, (f3 a (by omega)).2.1⟩
    have V3 : ∀ i, i ≠ m → (sR N3 31 m V).2.2 31 i = M.2.2 31 i := fun i hi => by rw [mR_n3 hi, (f3 31 (by omega)).2.2]
    have V4 : (sR N3 31 m V).2.2 31 m = V := mR_eq3
    generalize sR N3 31 m V = K at *
    -- what either reader leaves
    have fin : ∀ {R : PE (BL × Nat)} {v : Int32} {N : Mm}, bkBd b n L g nm c m p = R → Fr2 2 3 32 35 K N → (∀ i, i ≠ m → N.1 32 i = K.1 32 i ∧ N.1 33 i = K.1 33 i ∧ N.1 34 i = K.1 34 i) → PBo R v N (fun z => CT N b n L z.2 ∧ z.1.1 = c ∧ (c = 0 → N.1 32 m = I z.1.2.1 ∧ N.1 33 m = I z.1.2.2.1 ∧ N.1 34 m = I z.1.2.2.2) ∧ (c ≠ 0 → N.1 34 m = I z.1.2.1)) → ((v = I 0 ∨ v = I 1) ∧ ∃ v', some (Value.int v) = some (.int v') ∧ (Fr2 2 3 30 35 M (sI N 30 4 ((N.1 30 4) + (I 1))) ∧ (∀ k, k ≠ 4 → (sI N 30 4 ((N.1 30 4) + (I 1))).1 30 k = M.1 30 k) ∧ PBo (bkBd b n L g nm c m p) v' (sI N 30 4 ((N.1 30 4) + (I 1))) fun x => CT (sI N 30 4 ((N.1 30 4) + (I 1))) b n L x.2 ∧ CBk (sI N 30 4 ((N.1 30 4) + (I 1))) (m + 1) (upf bk m x.1))) := by
      intro R v N hR hF hK hB
      have m6 : N.1 30 4 = I (m : Int) := by rw [(hF 30 (by omega) (by omega)).1, m3']
      rw [hR, m6, I_add]
      refine ⟨PBo_01 hB, v, rfl, fun a a1 a2 => ⟨?_, ?_, ?_⟩, fun k hk2 => ?_, fun e he => ⟨(hB.1 e he).1, cFl_fr (hB.1 e he).2 (mI_fn (by decide))⟩, fun x hx => ?_⟩
      · rw [mI_fn (by omega), (hF a (by omega) (by omega)).1, (F3 a (by omega) (by omega)).1]
      · show N.2.1 a = _
        rw [(hF a (by omega) (by omega)).2.1, (F3 a (by omega) (by omega)).2.1]
      · show N.2.2 a = _
        rw [(hF a (by omega) (by omega)).2.2, (F3 a (by omega) (by omega)).2.2]
      · rw [mI_n2 hk2, (hF 30 (by omega) (by omega)).1, (F3 30 (by omega) (by omega)).1]
      · obtain ⟨u1, u2, u3, u4, u5⟩ := hB.2 x hx
        refine ⟨u1, CT_fr u2 (mI_fn (by decide)) (mI_fn (by decide)) rfl rfl, by rw [mI_eq]; rfl, fun i hi => ?_⟩
        rw [mI_n1 (by decide), mI_n1 (by decide), mI_n1 (by decide)]
        show N.2.2 31 i = _ ∧ _
        rw [(hF 31 (by omega) (by omega)).2.2]
        by_cases c1 : i = m
        · subst c1
          rw [upf_eq, V4, hV, u3]
          exact ⟨rfl, u4, u5⟩
        · rw [upf_ne c1, V3 i c1, (hK i c1).1, (hK i c1).2.1, (hK i c1).2.2, (B3 32 (by decide)).1, (B3 33 (by decide)).1, (B3 34 (by decide)).1]
          exact hk.2 i (by omega)
    refine ⟨inRI (by omega) (by omega) (by omega), Or.inr (by omega), fun q1 => ?_, fun q1 => ?_⟩
    · have c0 : c = 0 := by omega
      have eR : bkBd b n L g nm c m p = pPost b n L g nm (tkN b n L p) := by
        unfold bkBd
        rw [if_neg hm40, if_pos c0]
      refine q_int (c_readPost t3' hn3 m3' (by omega)) ?_
      rintro v N ⟨hF, hK, hB⟩
      exact fin eR hF hK ⟨hB.1, fun x hx => ⟨(hB.2 x hx).1, (hB.2 x hx).2.1, by rw [c0]; exact (hB.2 x hx).2.2.1, fun _ => (hB.2 x hx).2.2.2, fun y => absurd c0 y⟩⟩
    · have c0 : ¬ c = 0 := by omega
      have eR : bkBd b n L g nm c m p = pPlL b n L g nm c (tkN b n L p) := by
        unfold bkBd
        rw [if_neg hm40, if_neg c0]
      rw [hV]
      refine q_int (c_readPlace t3' hn3 m3' (by omega) (by omega)) ?_
      rintro v N ⟨hF, hK, hB⟩
      exact fin eR (hF.mono (by omega) (by omega) (by omega) (by omega)) (fun i hi => ⟨by rw [(hF 32 (by omega) (by omega)).1], by rw [(hF 33 (by omega) (by omega)).1], hK i hi⟩) ⟨hB.1, fun x hx => ⟨(hB.2 x hx).1, (hB.2 x hx).2.1, (hB.2 x hx).2.2.1, fun y => absurd y c0, fun _ => (hB.2 x hx).2.2.2⟩⟩
  · refine c_failT h (by decide) fun N hF hN => ⟨Or.inl rfl, _, rfl, (Fr.two hF), fun k _ => by rw [(hF 30 (by omega)).1], PBe (e := (4, tkS b n L p)) ?_ rfl hN⟩
    unfold bkBd
    rw [if_pos (by omega)]
theorem c_bkLine {d : Nat} (h : CT M b n L p) (hn : CN0 M ps g nm) (hk : CBk M m bk) (hm4 : m ≤ 40) : EvQ (d + 6) 170 [.ref 30, .ref 2, .ref ps] M fun r N => ∃ v, r = some (.int v) ∧ (Fr2 2 3 30 35 M N ∧ (∀ k, k ≠ 4 → N.1 30 k = M.1 30 k) ∧ PBo (bkLn b n L g nm m p) v N fun x => CT N b n L x.2 ∧ CBk N (m + 1) (upf bk m x.1)) := by
  have a8 := h.2.2.2.2.1
  have eS : bkLn b n L g nm m p = if tkW b n L p = 9 then bkBd b n L g nm 0 m p else if tkW b n L p = 10 then bkBd b n L g nm 1 m p else if tkW b n L p = 11 then bkBd b n L g nm 2 m p else if tkW b n L p = 12 then bkBd b n L g nm 3 m p else .error (1, tkS b n L p) := rfl
  have bd := fun (c V : Nat) (hc : c ≤ 3) (hV : V = 609 + c) => c_bkBody (d := d) (c := c) (V := V) h hn hk hm4 hc hV
  apply e_Book_readLine hn.1
  intro At _
  rw [a8]
  clear a8
  generalize tkW b n L p = w at *
  by_cases w9 : w = 9
  · rw [eS, if_pos w9, if_pos (by omega), w9]
    exact ⟨Or.inr (by decide), fun _ => bd 0 609 (by decide) rfl, fun z => absurd rfl z⟩
  by_cases w10 : w = 10
  · rw [eS, if_neg w9, if_pos w10, if_pos (by omega), w10]
    exact ⟨Or.inr (by decide), fun z => absurd z (by decide), fun _ => ⟨fun _ => bd 1 610 (by decide) rfl, fun z => absurd rfl z⟩⟩
  by_cases w11 : w = 11
  · rw [eS, if_neg w9, if_neg w10, if_pos w11, if_pos (by omega), w11]
    exact ⟨Or.inr (by decide), fun z => absurd z (by decide), fun _ => ⟨fun z => absurd z (by decide), fun _ => ⟨fun _ => bd 2 611 (by decide) rfl, fun z => absurd rfl z⟩⟩⟩
  by_cases w12 : w = 12
  · rw [eS, if_neg w9, if_neg w10, if_neg w11, if_pos w12, if_pos (by omega), w12]
    exact ⟨Or.inr (by decide), fun z => absurd z (by decide), fun _ => ⟨fun z => absurd z (by decide), fun _ => ⟨fun z => absurd z (by decide), fun _ => ⟨fun _ => bd 3 612 (by decide) rfl, fun z => absurd rfl z⟩⟩⟩⟩
  have hx : ∀ j : Nat, 9 ≤ j → j ≤ 12 → ¬ (if w < 23 then 600 + w else 0) = 600 + j := by
    intro j j1 j2 e
    split at e <;> omega
  refine ⟨?_, fun z => absurd z (hx 9 (by omega) (by omega)), fun _ => ⟨fun z => absurd z (hx 10 (by omega) (by omega)), fun _ => ⟨fun z => absurd z (hx 11 (by omega) (by omega)), fun _ => ⟨fun z => absurd z (hx 12 (by omega) (by omega)), fun _ => ?_⟩⟩⟩⟩
  · unfold rE
    split <;> omega
  · refine c_failT h (by decide) fun N hF hN => ⟨Or.inl rfl, _, rfl, (Fr.two hF), fun k _ => by rw [(hF 30 (by omega)).1], PBe (e := (1, tkS b n L p)) ?_ rfl hN⟩
    rw [eS, if_neg w9, if_neg w10, if_neg w11, if_neg w12]
theorem c_readBook {d : Nat} (h : CT M b n L 0) (hn : CN0 M ps g nm) : EvQ (d + 7) 169 [.ref 30, .ref 2, .ref ps] M fun r N => r = none ∧ Fr2 2 3 30 35 M N ∧ (∀ k, k ≠ 4 → N.1 30 k = M.1 30 k) ∧ (∀ e, bkS b n L g nm (n + 1) 0 bk00 0 = .error e → cFl N e) ∧ ∀ x, bkS b n L g nm (n + 1) 0 bk00 0 = .ok x → N.1 2 9 = I 0 ∧ CBk N x.1 x.2 ∧ x.1 ≤ 40 ∧ ∀ i, i < x.1 → bkOk g (x.2 i) := by
  have hp := hn.1
  have hlo := St_lo hp
  have h940 := h.1.1.2.1
  generalize hR : bkS b n L g nm (n + 1) 0 bk00 0 = R
  apply e_Book_read hp
  intro At step
  have key : ∀ (f m q : Nat) (bk : Nat → BL) (N : Mm), n < q + f → q ≤ n → m ≤ 40 → CT N b n L q → CN0 N ps g nm → CBk N m bk → (∀ i, i < m → bkOk g (bk i)) → Fr2 2 3 30 35 M N → (∀ k, k ≠ 4 → N.1 30 k = M.1 30 k) → bkS b n L g nm f m bk q = R → At 7 [.ref 30, .ref 2, .ref ps, .int (I 1)] [] N := by
    intro f
    induction f with
    | zero =>
      intro m q bk N h1 h2
      exfalso
      omega
    | succ f ih =>
      intro m q bk N h1 h2 h40 hT hC hB hO hF h30 hR
      have hTk := hT.2.2.2.1
      have k4 := (tk_four (b := b) (L := L) h2).1.2.2.1
      rw [bkS_s] at hR
      have rl := c_bkLine (d := d) hT hC hB h40
      apply s_Book_read_7 hp step
      rw [hTk, hB.1]
      clear hTk
      generalize tkK b n L q = kk at *
      rw [I_ne (a := (kk : Int)) (b := 0) (by omega) (by omega) (by omega) (by omega), I_lt (by omega) (by omega) (by omega) (by omega)]
      refine ⟨fun z => absurd z (by decide), fun _ => ⟨fun z => ?_, fun z => ⟨fun y => absurd y (by omega), fun _ => ?_⟩⟩⟩
      · rw [if_pos (by omega)] at hR
        refine ⟨rfl, hF, h30, fun e he => ?_, fun x hx => ?_⟩
        · rw [← hR] at he
          cases he
        · rw [← hR] at hx
          cases hx
          exact ⟨hT.1.2.2.1, hB, h40, hO⟩
      · rw [if_neg (by omega)] at hR
        refine q_int rl ?_
        rintro v N4 ⟨f4, g4, e1, e2⟩
        have F4 := hF.trans f4
        have G4 : ∀ k, k ≠ 4 → N4.1 30 k = M.1 30 k := fun k hk => (g4 k hk).trans (h30 k hk)
        have bad : ∀ (N : Mm) (e : Int × Nat), Fr2 2 3 30 35 M N → (∀ k, k ≠ 4 → N.1 30 k = M.1 30 k) → R = .error e → cFl N e → At 7 [.ref 30, .ref 2, .ref ps, .int (I 0)] [] N := by
          intro N e hF h30 hR hN
          apply s_Book_read_7 hp step
          refine ⟨fun _ => ⟨rfl, hF, h30, fun e' he => ?_, fun x hx => ?_⟩, fun z => absurd rfl z⟩
          · rw [hR] at he
            cases he
            exact hN
          · rw [hR] at hx
            cases hx
        rcases pe_cases (bkLn b n L g nm m q) with ⟨e, he⟩ | ⟨x, hx⟩
        · obtain ⟨rfl, w⟩ := e1 e he
          rw [bnd_e he] at hR
          exact ⟨fun _ => bad _ e F4 G4 hR.symm w, fun z => absurd rfl z⟩
        · obtain ⟨rfl, t6, i6⟩ := e2 x hx
          rw [bnd_o hx] at hR
          refine ⟨fun z => absurd z (by decide), fun _ => ?_⟩
          refine q_int (c_takeSign t6 (by decide)) ?_
          rintro v N9 ⟨f9, e3, e4⟩
          have F9 : Fr2 2 3 30 35 M N9 := F4.trans (Fr.two f9)
          have G9 : ∀ k, k ≠ 4 → N9.1 30 k = M.1 30 k := fun k hk => by rw [(f9 30 (by omega)).1]; exact G4 k hk
          rcases pe_cases (pSign b n L 59 x.2) with ⟨e, he⟩ | ⟨q2, hq⟩
          · obtain ⟨rfl, w⟩ := e3 e he
            rw [bnd_e he] at hR
            exact ⟨fun _ => bad _ e F9 G9 hR.symm w, fun z => absurd rfl z⟩
          · obtain ⟨rfl, t11⟩ := e4 q2 hq
            rw [bnd_o hq] at hR
            refine ⟨fun z => absurd z (by decide), fun _ => ?_⟩
            obtain ⟨b1, b3, b4, b5⟩ := bk_step h2 hC.2.2.2.1 hx hq
            refine ih (m + 1) q2 _ N9 (by omega) b4 (by omega) t11 (CN0_fr hC fun a a1 a2 => ?_) (CBk_fr i6 f9) (fun i hi => ?_) F9 G9 hR
            · rw [(f9 a (by omega)).1, (f9 a (by omega)).2.1]
              exact ⟨(f4 a (by omega) (by omega)).1, (f4 a (by omega) (by omega)).2.1⟩
            · by_cases c : i = m
              · rw [c, upf_eq]
                exact b1
              · rw [upf_ne c]
                exact hO i (by omega)
  refine key (n + 1) 0 0 bk00 _ (by omega) (by omega) (by omega) (CT_fr h (mI_fn (by decide)) (mI_fn (by decide)) rfl rfl) (CN0_fr hn fun a a1 a2 => ⟨mI_fn (by omega), rfl⟩) ⟨mI_eq, fun i hi => absurd hi (by omega)⟩ (fun i hi => absurd hi (by omega)) (Fr.two' (Fr.sI (by omega) (by omega))) (fun k hk => mI_n2 hk) hR
end CBT
