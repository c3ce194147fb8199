/-! ===== a sentence's text: the class's reader ===== -/
def SQ (M : Mm) (o : Nat) (st : SS) : Prop := M.1 o 4 = I (st.2.1 : Int) ∧ M.1 o 5 = I (st.2.2 : Int) ∧ ∀ i, i < st.2.1 → M.2.2 (o + 1) i = vbA (st.1 i).1 ∧ M.1 (o + 2) i = I (st.1 i).2.1 ∧ M.1 (o + 3) i = I (st.1 i).2.2
theorem vbA_rE (c : Int) : rE (vbA c) := by
  refine Or.inr ?_
  unfold vbA
  repeat' split
  all_goals decide
theorem vbA_lf : ∀ w : Nat, w < 23 → 0 ≤ lfC w → vbA (lfC w) = 600 + w := by decide +kernel
theorem Se_al {o : Nat} (h : Se o) : alen (o + 1) = 40 ∧ 300 ≤ o := by
  rcases h with rfl | rfl | rfl | rfl <;> decide
theorem SQ_fr {M N : Mm} {o : Nat} {st : SS} (h : SQ M o st) (h1 : ∀ a, o ≤ a → a < o + 4 → N.1 a = M.1 a ∧ N.2.2 a = M.2.2 a) : SQ N o st := by
  unfold SQ at h ⊢
  rw [(h1 o (by omega) (by omega)).1, (h1 (o + 1) (by omega) (by omega)).2, (h1 (o + 2) (by omega) (by omega)).1, (h1 (o + 3) (by omega) (by omega)).1]
  exact h
section CSN
variable {M : Mm} {b : Nat → Nat} {n L p ps o : Nat} {g : Nat → Int} {nm : Nat → List Nat} {st : SS}
theorem c_addStep {d V : Nat} {c s z : Int} (ho : Se o) (hq : SQ M o st) (hv : VE M o) (hc : st.2.1 < 40) (hV : V = vbA c) : EvQ (d + 1) 202 [.ref o, .ref V, .int (I s), .int (I z)] M fun r N => ∃ v, r = some (.int v) ∧ (v = I 1 ∧ SQ N o (addc st (c, s, z)) ∧ VE N o ∧ Fr o (o + 5) M N) := by
  obtain ⟨al, hlo⟩ := Se_al ho
  apply e_Sentence_addStep ho
  intro At _
  rw [hq.1, al, I_lt (by omega) (by omega) (by omega) (by omega), ixI (by omega) (by omega), Int.toNat_natCast]
  refine ⟨fun _ => ⟨inRI (by omega) (by omega) (by omega), by rw [hV]; exact vbA_rE c, inRI (by omega) (by omega) (by omega), ?_⟩, fun q => absurd (by omega) q⟩
  have e1 : (sI (sR M (o + 1) st.2.1 V) (o + 2) st.2.1 (I s)).1 o 4 = I (st.2.1 : Int) := by
    rw [mI_n1 (by omega)]
    exact hq.1
  rw [e1, ixI (by omega) (by omega), Int.toNat_natCast]
  refine ⟨inRI (by omega) (by omega) (by omega), fun N2 hN => ?_⟩
  have e2 : N2.1 o 4 = I (st.2.1 : Int) := by rw [hN, mI_n1 (by omega), e1]
  have r2 : N2.2.2 = (sR M (o + 1) st.2.1 V).2.2 := by rw [hN]; rfl
  rw [e2, I_add]
  have F2 : Fr o (o + 5) M N2 := by
    rw [hN]
    exact ((Fr.sR (by omega) (by omega)).trans (Fr.sI (by omega) (by omega))).trans (Fr.sI (by omega) (by omega))
  refine ⟨_, rfl, rfl, ⟨by rw [mI_eq]; rfl, ?_, fun i hi => ?_⟩, fun i hi => ?_, F2.trans (Fr.sI (by omega) (by omega))⟩
  · rw [mI_n2 (by decide), hN, mI_n1 (by omega), mI_n1 (by omega)]
    exact hq.2.1
  · have hi : i < st.2.1 + 1 := hi
    show N2.2.2 (o + 1) i = vbA (upf st.1 st.2.1 (c, s, z) i).1 ∧ (sI N2 o 4 (I ((st.2.1 : Int) + 1))).1 (o + 2) i = I (upf st.1 st.2.1 (c, s, z) i).2.1 ∧ (sI N2 o 4 (I ((st.2.1 : Int) + 1))).1 (o + 3) i = I (upf st.1 st.2.1 (c, s, z) i).2.2
    rw [r2, mI_n1 (by omega), mI_n1 (by omega), hN]
    by_cases e : i = st.2.1
    · rw [e, mR_eq3, mI_n1 (by omega), mI_eq, mI_eq, upf_eq]
      exact ⟨hV, rfl, rfl⟩
    · rw [mR_n3 e, mI_n1 (by omega), mI_n2 e, mI_n2 e, mI_n1 (by omega), upf_ne e]
      exact hq.2.2 i (by omega)
  · show rE (N2.2.2 (o + 1) i)
    rw [r2]
    by_cases e : i = st.2.1
    · rw [e, mR_eq3, hV]
      exact vbA_rE c
    · rw [mR_n3 e]
      exact hv i hi
theorem c_beginsOne {d w : Nat} (hw : w ≤ 24) : Ev (d + 1) 200 [.ref (if w < 23 then 600 + w else 0)] M (some (.int (I (if w = 15 ∨ 0 ≤ lfC w then 1 else 0)))) M := by
  apply Ev.ofQ
  apply e_Sentence_beginsOne
  intro At _
  have : w = 0 ∨ w = 1 ∨ w = 2 ∨ w = 3 ∨ w = 4 ∨ w = 5 ∨ w = 6 ∨ w = 7 ∨ w = 8 ∨ w = 9 ∨ w = 10 ∨ w = 11 ∨ w = 12 ∨ w = 13 ∨ w = 14 ∨ w = 15 ∨ w = 16 ∨ w = 17 ∨ w = 18 ∨ w = 19 ∨ w = 20 ∨ w = 21 ∨ w = 22 ∨ w = 23 ∨ w = 24 := by omega
  have rr : ∀ V : Nat, rE V → ∀ x : Nat, (x = if (V = 615 ∨ V = 616 ∨ V = 617 ∨ V = 602 ∨ V = 618 ∨ V = 619 ∨ V = 620 ∨ V = 621 ∨ V = 622) then 1 else 0) → rE V ∧ (((V = 615) → some (Value.int (I 1)) = some (.int (I (x : Int))) ∧ M = M) ∧ (¬ (V = 615) → ((V = 616) → some (Value.int (I 1)) = some (.int (I (x : Int))) ∧ M = M) ∧ (¬ (V = 616) → ((V = 617) → some (Value.int (I 1)) = some (.int (I (x : Int))) ∧ M = M) ∧ (¬ (V = 617) → ((V = 602) → some (Value.int (I 1)) = some (.int (I (x : Int))) ∧ M = M) ∧ (¬ (V = 602) → ((V = 618) → some (Value.int (I 1)) = some (.int (I (x : Int))) ∧ M = M) ∧ (¬ (V = 618) → ((V = 619) → some (Value.int (I 1)) = some (.int (I (x : Int))) ∧ M = M) ∧ (¬ (V = 619) → ((V = 620) → some (Value.int (I 1)) = some (.int (I (x : Int))) ∧ M = M) ∧ (¬ (V = 620) → ((V = 621) → some (Value.int (I 1)) = some (.int (I (x : Int))) ∧ M = M) ∧ (¬ (V = 621) → ((V = 622) → some (Value.int (I 1)) = some (.int (I (x : Int))) ∧ M = M) ∧ (¬ (V = 622) → some (Value.int (I 0)) = some (.int (I (x : Int))) ∧ M = M)))))))))) := by
    intro V hV x hx
    have y : (V = 615 ∨ V = 616 ∨ V = 617 ∨ V = 602 ∨ V = 618 ∨ V = 619 ∨ V = 620 ∨ V = 621 ∨ V = 622) → some (Value.int (I 1)) = some (.int (I (x : Int))) ∧ M = M := fun c => by
      rw [hx, if_pos c]
      exact ⟨rfl, rfl⟩
    have no : ¬ (V = 615 ∨ V = 616 ∨ V = 617 ∨ V = 602 ∨ V = 618 ∨ V = 619 ∨ V = 620 ∨ V = 621 ∨ V = 622) → some (Value.int (I 0)) = some (.int (I (x : Int))) ∧ M = M := fun c => by
      rw [hx, if_neg c]
      exact ⟨rfl, rfl⟩
    exact ⟨hV, fun a => y (by omega), fun b => ⟨fun a => y (by omega), fun c => ⟨fun a => y (by omega), fun d => ⟨fun a => y (by omega), fun e => ⟨fun a => y (by omega), fun f => ⟨fun a => y (by omega), fun h => ⟨fun a => y (by omega), fun i => ⟨fun a => y (by omega), fun j => ⟨fun a => y (by omega), fun k => no (by omega)⟩⟩⟩⟩⟩⟩⟩⟩⟩
  rcases this with rfl | rfl | rfl | rfl | rfl | rfl | rfl | rfl | rfl | rfl | rfl | rfl | rfl | rfl | rfl | rfl | rfl | rfl | rfl | rfl | rfl | rfl | rfl | rfl | rfl
  · exact rr 600 (by unfold rE; decide) 0 (by decide)
  · exact rr 601 (by unfold rE; decide) 0 (by decide)
  · exact rr 602 (by unfold rE; decide) 1 (by decide)
  · exact rr 603 (by unfold rE; decide) 0 (by decide)
  · exact rr 604 (by unfold rE; decide) 0 (by decide)
  · exact rr 605 (by unfold rE; decide) 0 (by decide)
  · exact rr 606 (by unfold rE; decide) 0 (by decide)
  · exact rr 607 (by unfold rE; decide) 0 (by decide)
  · exact rr 608 (by unfold rE; decide) 0 (by decide)
  · exact rr 609 (by unfold rE; decide) 0 (by decide)
  · exact rr 610 (by unfold rE; decide) 0 (by decide)
  · exact rr 611 (by unfold rE; decide) 0 (by decide)
  · exact rr 612 (by unfold rE; decide) 0 (by decide)
  · exact rr 613 (by unfold rE; decide) 0 (by decide)
  · exact rr 614 (by unfold rE; decide) 0 (by decide)
  · exact rr 615 (by unfold rE; decide) 1 (by decide)
  · exact rr 616 (by unfold rE; decide) 1 (by decide)
  · exact rr 617 (by unfold rE; decide) 1 (by decide)
  · exact rr 618 (by unfold rE; decide) 1 (by decide)
  · exact rr 619 (by unfold rE; decide) 1 (by decide)
  · exact rr 620 (by unfold rE; decide) 1 (by decide)
  · exact rr 621 (by unfold rE; decide) 1 (by decide)
  · exact rr 622 (by unfold rE; decide) 1 (by decide)
  · exact rr 0 (by unfold rE; decide) 0 (by decide)
  · exact rr 0 (by unfold rE; decide) 0 (by decide)
theorem CN0_s {N : Mm} (hn : CN0 M ps g nm) (ho : Se o) (hF : Fr2 2 3 o (o + 5) M N) : CN0 N ps g nm := CN0_fr hn fun a a1 a2 => by
  have h1 := St_lo hn.1
  have h2 := St_Se hn.1 ho
  exact ⟨(hF a (by omega) (by omega)).1, (hF a (by omega) (by omega)).2.1⟩
theorem CT_s {N : Mm} (h : CT M b n L p) (ho : Se o) (hF : Fr o (o + 5) M N) : CT N b n L p := by
  have h2 := (Se_al ho).2
  exact CT_fr h (hF 2 (by omega)).1 (hF 3 (by omega)).1 (hF 2 (by omega)).2.1 (hF 2 (by omega)).2.2
theorem SQ_2 {N : Mm} (h : SQ M o st) (ho : Se o) (hF : Fr 2 3 M N) : SQ N o st := by
  have h2 := (Se_al ho).2
  exact SQ_fr h fun a a1 a2 => ⟨(hF a (by omega)).1, (hF a (by omega)).2.2⟩
theorem VE_2 {N : Mm} (h : VE M o) (ho : Se o) (hF : Fr 2 3 M N) : VE N o := by
  have h2 := (Se_al ho).2
  exact VE_fr h (hF (o + 1) (by omega)).2.2
theorem c_readBehind {d : Nat} (ho : Se o) (h : CT M b n L p) (hn : CN0 M ps g nm) (hq : SQ M o st) (hv : VE M o) (hc : st.2.1 < 40) : EvQ (d + 4) 199 [.ref o, .ref 2, .ref ps] M fun r N => ∃ v, r = some (.int v) ∧ (Fr2 2 3 o (o + 5) M N ∧ VE N o ∧ PBo (bnd (pNamed b n L nm 0 (g 0).toNat p) fun w => .ok (addc st (4, 0, w), tkN b n L p)) v N fun x => CT N b n L x.2 ∧ SQ N o x.1) := by
  apply e_Sentence_readBehind ho hn.1
  intro At _
  rw [hn.2.1.1.1]
  refine q_int (c_seeWall h hn) ?_
  rintro v N1 ⟨f1, e1, e2⟩
  rcases pe_cases (pNamed b n L nm 0 (g 0).toNat p) with ⟨e, he⟩ | ⟨w, hw⟩
  · obtain ⟨rfl, u⟩ := e1 e he
    exact ⟨fun _ => ⟨_, rfl, Fr.two f1, VE_2 hv ho f1, PBe (bnd_e he) rfl u⟩, fun y => absurd rfl y⟩
  obtain ⟨rfl, rfl, w1, w2⟩ := e2 w hw
  rw [I_ne (by omega) (by omega) (by omega) (by omega)]
  refine ⟨fun y => absurd y (by omega), fun _ => ?_⟩
  refine q_non (c_nextT h) ?_
  rintro N6 ⟨f6, t6⟩
  refine q_int ((c_addStep (V := 619) (c := 4) (s := 0) (z := w) ho (SQ_2 hq ho f6) (VE_2 hv ho f6) hc rfl)) ?_
  rintro v N8 ⟨rfl, q8, v8, f8⟩
  exact ⟨Or.inr rfl, _, rfl, (Fr.two f6).trans (Fr.two' f8), v8, PBk (bnd_o hw) rfl ⟨CT_s t6 ho f8, q8⟩⟩
theorem c_readCmp {d V : Nat} {c : Int} (ho : Se o) (h : CT M b n L p) (hq : SQ M o st) (hv : VE M o) (hc : st.2.1 < 40) (hV : V = vbA c) : EvQ (d + 5) 201 [.ref o, .ref 2, .ref V] M fun r N => ∃ v, r = some (.int v) ∧ (Fr2 2 3 o (o + 5) M N ∧ VE N o ∧ PBo (if isCmp b n L p then bnd (pNum b n L 0 999 (tkN b n L p)) fun x => .ok (addc st (c, tkV b n p, x.1), x.2) else .error (1, tkS b n L p)) v N fun x => CT N b n L x.2 ∧ SQ N o x.1) := by
  have a6 := h.2.2.2.2.2.2
  generalize hR : (if isCmp b n L p then bnd (pNum b n L 0 999 (tkN b n L p)) fun x => .ok (addc st (c, tkV b n p, x.1), x.2) else .error (1, tkS b n L p) : PE (SS × Nat)) = R
  -- behind the sign
  have go : isCmp b n L p → ∃ (N44 : Mm), (Ev (d + 4) 260 [.ref 2] M none N44 ∧ (∃ (v47 : Int32), ∃ (N46 : Mm), (Ev (d + 4) 271 [.ref 2, .int (I 0), .int (I 999)] N44 (some (.int v47)) N46 ∧ (((v47 = (I (-1))) → ∃ v, some (Value.int (I 0)) = some (.int v) ∧ (Fr2 2 3 o (o + 5) M N46 ∧ VE N46 o ∧ PBo R v N46 fun x => CT N46 b n L x.2 ∧ SQ N46 o x.1)) ∧ (¬ (v47 = (I (-1))) → ∃ (v52 : Int32), ∃ (N51 : Mm), (Ev (d + 4) 202 [.ref o, .ref V, .int (M.1 2 6), .int v47] N46 (some (.int v52)) N51 ∧ (((v52 = (I 0)) → ∃ v, some (Value.int (I 0)) = some (.int v) ∧ (Fr2 2 3 o (o + 5) M N51 ∧ VE N51 o ∧ PBo R v N51 fun x => CT N51 b n L x.2 ∧ SQ N51 o x.1)) ∧ (¬ (v52 = (I 0)) → ∃ v, some (Value.int (I 1)) = some (.int v) ∧ (Fr2 2 3 o (o + 5) M N51 ∧ VE N51 o ∧ PBo R v N51 fun x => CT N51 b n L x.2 ∧ SQ N51 o x.1))))))))) := by
    intro hcmp
    rw [if_pos hcmp] at hR
    rw [a6 (Or.inr hcmp.1)]
    refine q_non (c_nextT h) ?_
    rintro N44 ⟨f44, t44⟩
    refine q_int (c_takeNumber t44 (by decide) (by decide)) ?_
    rintro v N46 ⟨f46, e1, e2⟩
    have f6 := f44.trans f46
    rcases pe_cases (pNum b n L 0 999 (tkN b n L p)) with ⟨e, he⟩ | ⟨x, hx⟩
    · obtain ⟨rfl, u⟩ := e1 e he
      rw [bnd_e he] at hR
      exact ⟨fun _ => ⟨_, rfl, Fr.two f6, VE_2 hv ho f6, PBe hR.symm rfl u⟩, fun y => absurd rfl y⟩
    obtain ⟨rfl, t46, x1, x2⟩ := e2 x hx
    rw [bnd_o hx] at hR
    rw [I_ne (by omega) (by omega) (by omega) (by omega)]
    refine ⟨fun y => absurd y (by omega), fun _ => ?_⟩
    refine q_int ((c_addStep (V := V) (c := c) (s := tkV b n p) (z := x.1) ho (SQ_2 hq ho f6) (VE_2 hv ho f6) hc hV)) ?_
    rintro v N8 ⟨rfl, q8, v8, f8⟩
    exact ⟨fun y => absurd y (by decide), fun _ => ⟨_, rfl, (Fr.two f6).trans (Fr.two' f8), v8, PBk hR.symm rfl ⟨CT_s t46 ho f8, q8⟩⟩⟩
  apply e_Sentence_readComparison ho
  intro At _
  refine ⟨_, _, c_atSign h (by decide), fun z0 => ⟨_, _, c_atSign h (by decide), fun z1 => ⟨_, _, c_atSign h (by decide), fun z2 => ?_, fun z2 => ?_⟩, fun z1 => ?_⟩, fun z0 => ?_⟩
  · rw [bI0] at z0 z1 z2
    have nc : ¬ isCmp b n L p := fun y => by
      obtain ⟨y1, y2, y3⟩ := y
      clear go hR
      omega
    rw [if_neg nc] at hR
    exact c_failT h (by decide) fun N hF hN => ⟨Or.inl rfl, _, rfl, Fr.two hF, VE_2 hv ho hF, PBe hR.symm rfl hN⟩
  · have y : tkK b n L p = 4 ∧ tkV b n p = 62 := Classical.byContradiction fun y => z2 (by rw [bI0]; exact y)
    exact go ⟨y.1, by rw [y.2]; decide, by rw [y.2]; decide⟩
  · have y : tkK b n L p = 4 ∧ tkV b n p = 61 := Classical.byContradiction fun y => z1 (by rw [bI0]; exact y)
    exact go ⟨y.1, by rw [y.2]; decide, by rw [y.2]; decide⟩
  · have y : tkK b n L p = 4 ∧ tkV b n p = 60 := Classical.byContradiction fun y => z0 (by rw [bI0]; exact y)
    exact go ⟨y.1, by rw [y.2]; decide, by rw [y.2]; decide⟩
end CSN
